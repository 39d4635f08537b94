def pm_le : pm_L → pm_L → Prop
  | [], [] => True
  | a :: as, b :: bs => (a = none ∨ a = b) ∧ pm_le as bs
  | _, _ => False
theorem pm_le_len : ∀ {a b : pm_L}, pm_le a b → a.length = b.length
  | [], [], _ => rfl
  | _ :: as, _ :: bs, h => by simp [pm_le_len (a := as) (b := bs) h.2]
  | [], _ :: _, h => h.elim
  | _ :: _, [], h => h.elim
theorem pm_le_get : ∀ {a b : pm_L}, pm_le a b → ∀ (i : Nat) (v : pm_V), a[i]? = some (some v) → b[i]? = some (some v)
  | [], [], _, i, v, h => by simp at h
  | x :: as, y :: bs, h, 0, v, h1 => by
    simp at h1
    subst h1
    rcases h.1 with q | q
    · cases q
    · simp [← q]
  | x :: as, y :: bs, h, i + 1, v, h1 => by
    simp at h1 ⊢
    exact pm_le_get (a := as) (b := bs) h.2 i v h1
  | [], _ :: _, h, _, _, _ => h.elim
  | _ :: _, [], h, _, _, _ => h.elim
/-- fewer locals are enough -/
theorem pm_G_le {mi : pm_MI} {pc : Nat} {ls ls' : pm_L} {st : List pm_V} {M : pm_M} {Q : Option pm_V → pm_M → Prop} (h : pm_le ls' ls) (k : pm_G mi pc ls' st M Q) : pm_G mi pc ls st M Q := pm_G_sub (pm_le_len h) (pm_le_get h) k
theorem pm_tsw_out {pc t : Nat} {d lo hi : Int} {offs : Array Int} {x : Int32} (hd : pm_tg pc d = t) (h : ∀ z : Int, lo ≤ z → z ≤ hi → x.toInt = z → pm_tg pc (offs.getD (z - lo).toNat 0) = t) : pm_tsw pc d lo hi offs x = t := by
  unfold pm_tsw
  split
  · exact hd
  · exact h _ (by omega) (by omega) rfl
/-- a count up: from the end back -/
theorem pm_upto {P : Nat → Prop} {N : Nat} (hN : P N) (hs : ∀ i, i < N → P (i + 1) → P i) : ∀ i, i ≤ N → P i := by
  have key : ∀ d i, i + d = N → P i := by
    intro d
    induction d with
    | zero => intro i h; have : i = N := by omega
              rw [this]; exact hN
    | succ d ih => intro i h; exact hs i (by omega) (ih (i + 1) (by omega))
  exact fun i hi => key (N - i) i (by omega)

def fWt_within (a0 : Int32) (a1 : Int32) (a2 : Int32) (M : pm_M) : Int32 := (if a0 < a1 then 0 else (if a2 < a0 then 0 else 1))
theorem zWt_within (a0 : Int32) (a1 : Int32) (a2 : Int32) (M : pm_M) : narrow .boolean (.int (fWt_within a0 a1 a2 M)) = .int (fWt_within a0 a1 a2 M) := by
  unfold fWt_within
  repeat' split
  all_goals first | rfl | skip
theorem eWt_within {a0 : Int32} {a1 : Int32} {a2 : Int32} {M : pm_M}  : pm_Ev mWt_within [pm_i a0, pm_i a1, pm_i a2] M (some (pm_i (fWt_within a0 a1 a2 M))) M := by
  refine pm_Sem_of (ls := [some (pm_i a0), some (pm_i a1), some (pm_i a2)]) ok_mWt_within (by decide +kernel) rfl (by decide) (Nat.le_of_ble_eq_true rfl) rfl ?_
  unfold fWt_within
  refine bWt_within_0 (fun h1 => ?_) (fun h1 => ?_)
  · simp only [if_pos h1]
    refine bWt_within_14 ?_
    exact bWt_within_15 rfl ⟨rfl, rfl⟩
  · simp only [if_neg h1]
    refine bWt_within_5 (fun h2 => ?_) (fun h2 => ?_)
    · simp only [if_pos h2]
      refine bWt_within_14 ?_
      exact bWt_within_15 rfl ⟨rfl, rfl⟩
    · simp only [if_neg h2]
      refine bWt_within_10 ?_
      exact bWt_within_15 rfl ⟨rfl, rfl⟩

def fTa_put (a1 : Int32) (M : pm_M) : Int32 := (if (M.1 21 0 1) < 160 then 1 else 0)
def gTa_put (a1 : Int32) (M : pm_M) : pm_M := (if (M.1 21 0 1) < 160 then (pm_set (pm_set M 22 0 (upd (M.1 22 0) (Int32.toNatClampNeg (M.1 21 0 1)) (vp_nar .byte ((Int32.toInt8 a1).toInt32)))) 21 0 (upd (M.1 21 0) 1 ((M.1 21 0 1) + 1))) else M)
def sTa_put (a1 : Int32) (M : pm_M) : Prop := (((M.1 21 0 1) < 160 → (vp_in (M.1 21 0 1) 160)) ∧ (¬ ((M.1 21 0 1) < 160) → True))
theorem zTa_put (a1 : Int32) (M : pm_M) : narrow .boolean (.int (fTa_put a1 M)) = .int (fTa_put a1 M) := by
  unfold fTa_put
  repeat' split
  all_goals first | rfl | skip
theorem eTa_put {a1 : Int32} {M : pm_M} (hs : sTa_put a1 M) : pm_Ev mTa_put [pm_r 21 0, pm_i a1] M (some (pm_i (fTa_put a1 M))) (gTa_put a1 M) := by
  refine pm_Sem_of (ls := [some (pm_r 21 0), some (pm_i a1)]) ok_mTa_put (by decide +kernel) rfl (by decide) (Nat.le_of_ble_eq_true rfl) rfl ?_
  unfold fTa_put gTa_put
  unfold sTa_put at hs
  refine bTa_put_0 (fun h1 => ?_) (fun h1 => ?_)
  · simp only [if_pos h1]
    exact bTa_put_12 ((hs.1 h1)) rfl ⟨rfl, rfl⟩
  · simp only [if_neg h1]
    exact bTa_put_10 rfl ⟨rfl, rfl⟩

def gTa_rewind  (M : pm_M) : pm_M := (pm_set M 21 0 (upd (M.1 21 0) 2 0))
theorem eTa_rewind  {M : pm_M}  : pm_Ev mTa_rewind [pm_r 21 0] M none (gTa_rewind  M) := by
  refine pm_Sem_of (ls := [some (pm_r 21 0)]) ok_mTa_rewind (by decide +kernel) rfl (by decide) (Nat.le_of_ble_eq_true rfl) rfl ?_
  unfold gTa_rewind
  exact bTa_rewind_0 ⟨rfl, rfl⟩

def fTe_blame (a1 : Int32) (a2 : Int32) (M : pm_M) : Int32 := 0
def gTe_blame (a1 : Int32) (a2 : Int32) (M : pm_M) : pm_M := (pm_set (pm_set M 23 0 (upd (M.1 23 0) 0 a1)) 23 0 (upd ((pm_set M 23 0 (upd (M.1 23 0) 0 a1)).1 23 0) 1 a2))
theorem zTe_blame (a1 : Int32) (a2 : Int32) (M : pm_M) : narrow .boolean (.int (fTe_blame a1 a2 M)) = .int (fTe_blame a1 a2 M) := by
  unfold fTe_blame
  repeat' split
  all_goals first | rfl | skip
theorem eTe_blame {a1 : Int32} {a2 : Int32} {M : pm_M}  : pm_Ev mTe_blame [pm_r 23 0, pm_i a1, pm_i a2] M (some (pm_i (fTe_blame a1 a2 M))) (gTe_blame a1 a2 M) := by
  refine pm_Sem_of (ls := [some (pm_r 23 0), some (pm_i a1), some (pm_i a2)]) ok_mTe_blame (by decide +kernel) rfl (by decide) (Nat.le_of_ble_eq_true rfl) rfl ?_
  unfold fTe_blame gTe_blame
  exact bTe_blame_0 rfl ⟨rfl, rfl⟩

def fTe_toldAlready (a1 : Int32) (k2 : Nat) (M : pm_M) : Int32 := (if a1 = 4 then (M.1 4 k2 0) else (if a1 = 5 then (M.1 23 0 3) else (if a1 = 6 then (M.1 23 0 4) else (M.1 4 k2 1))))
theorem eTe_toldAlready {a1 : Int32} {k2 : Nat} {M : pm_M}  : pm_Ev mTe_toldAlready [pm_r 23 0, pm_i a1, pm_r 4 k2] M (some (pm_i (fTe_toldAlready a1 k2 M))) M := by
  refine pm_Sem_of (ls := [some (pm_r 23 0), some (pm_i a1), some (pm_r 4 k2)]) ok_mTe_toldAlready (by decide +kernel) rfl (by decide) (Nat.le_of_ble_eq_true rfl) rfl ?_
  unfold fTe_toldAlready
  refine bTe_toldAlready_0 ?_
  by_cases h1 : a1 = 4
  · simp only [if_pos h1]
    rw [show pm_tsw 1 42 4 6 #[27, 32, 37] a1 = 28 from by rw [h1]; decide +kernel]
    exact bTe_toldAlready_28 ⟨rfl, rfl⟩
  · simp only [if_neg h1]
    by_cases h2 : a1 = 5
    · simp only [if_pos h2]
      rw [show pm_tsw 1 42 4 6 #[27, 32, 37] a1 = 33 from by rw [h2]; decide +kernel]
      exact bTe_toldAlready_33 ⟨rfl, rfl⟩
    · simp only [if_neg h2]
      by_cases h3 : a1 = 6
      · simp only [if_pos h3]
        rw [show pm_tsw 1 42 4 6 #[27, 32, 37] a1 = 38 from by rw [h3]; decide +kernel]
        exact bTe_toldAlready_38 ⟨rfl, rfl⟩
      · simp only [if_neg h3]
        rw [show pm_tsw 1 42 4 6 #[27, 32, 37] a1 = 43 from by
          refine pm_tsw_out (by decide +kernel) (fun z g1 g2 g3 => ?_)
          rcases (show z = 4 ∨ z = 5 ∨ z = 6 from by omega) with rfl | rfl | rfl
          · exact absurd (Int32.toInt_inj.mp (g3.trans (by decide : (4 : Int) = (4 : Int32).toInt))) h1
          · exact absurd (Int32.toInt_inj.mp (g3.trans (by decide : (5 : Int) = (5 : Int32).toInt))) h2
          · exact absurd (Int32.toInt_inj.mp (g3.trans (by decide : (6 : Int) = (6 : Int32).toInt))) h3
          ]
        exact bTe_toldAlready_43 ⟨rfl, rfl⟩

def fTe_howManyNumbers (a0 : Int32) (M : pm_M) : Int32 := (if a0 = 4 then 1 else (if a0 = 5 then 1 else (if a0 = 6 then 2 else 3)))
theorem eTe_howManyNumbers {a0 : Int32} {M : pm_M}  : pm_Ev mTe_howManyNumbers [pm_i a0] M (some (pm_i (fTe_howManyNumbers a0 M))) M := by
  refine pm_Sem_of (ls := [some (pm_i a0)]) ok_mTe_howManyNumbers (by decide +kernel) rfl (by decide) (Nat.le_of_ble_eq_true rfl) rfl ?_
  unfold fTe_howManyNumbers
  refine bTe_howManyNumbers_0 ?_
  by_cases h1 : a0 = 4
  · simp only [if_pos h1]
    rw [show pm_tsw 1 33 4 6 #[27, 29, 31] a0 = 28 from by rw [h1]; decide +kernel]
    exact bTe_howManyNumbers_28 ⟨rfl, rfl⟩
  · simp only [if_neg h1]
    by_cases h2 : a0 = 5
    · simp only [if_pos h2]
      rw [show pm_tsw 1 33 4 6 #[27, 29, 31] a0 = 30 from by rw [h2]; decide +kernel]
      exact bTe_howManyNumbers_30 ⟨rfl, rfl⟩
    · simp only [if_neg h2]
      by_cases h3 : a0 = 6
      · simp only [if_pos h3]
        rw [show pm_tsw 1 33 4 6 #[27, 29, 31] a0 = 32 from by rw [h3]; decide +kernel]
        exact bTe_howManyNumbers_32 ⟨rfl, rfl⟩
      · simp only [if_neg h3]
        rw [show pm_tsw 1 33 4 6 #[27, 29, 31] a0 = 34 from by
          refine pm_tsw_out (by decide +kernel) (fun z g1 g2 g3 => ?_)
          rcases (show z = 4 ∨ z = 5 ∨ z = 6 from by omega) with rfl | rfl | rfl
          · exact absurd (Int32.toInt_inj.mp (g3.trans (by decide : (4 : Int) = (4 : Int32).toInt))) h1
          · exact absurd (Int32.toInt_inj.mp (g3.trans (by decide : (5 : Int) = (5 : Int32).toInt))) h2
          · exact absurd (Int32.toInt_inj.mp (g3.trans (by decide : (6 : Int) = (6 : Int32).toInt))) h3
          ]
        exact bTe_howManyNumbers_34 ⟨rfl, rfl⟩

def fTe_boundOf (a0 : Int32) (a1 : Int32) (M : pm_M) : Int32 := (if a0 = 4 then 99 else (if a0 = 5 then 99 else (if a0 = 6 then 3 else (if a1 = 2 then 9 else 3))))
theorem eTe_boundOf {a0 : Int32} {a1 : Int32} {M : pm_M}  : pm_Ev mTe_boundOf [pm_i a0, pm_i a1] M (some (pm_i (fTe_boundOf a0 a1 M))) M := by
  refine pm_Sem_of (ls := [some (pm_i a0), some (pm_i a1)]) ok_mTe_boundOf (by decide +kernel) rfl (by decide) (Nat.le_of_ble_eq_true rfl) rfl ?_
  unfold fTe_boundOf
  refine bTe_boundOf_0 ?_
  by_cases h1 : a0 = 4
  · simp only [if_pos h1]
    rw [show pm_tsw 1 35 4 6 #[27, 30, 33] a0 = 28 from by rw [h1]; decide +kernel]
    exact bTe_boundOf_28 ⟨rfl, rfl⟩
  · simp only [if_neg h1]
    by_cases h2 : a0 = 5
    · simp only [if_pos h2]
      rw [show pm_tsw 1 35 4 6 #[27, 30, 33] a0 = 31 from by rw [h2]; decide +kernel]
      exact bTe_boundOf_31 ⟨rfl, rfl⟩
    · simp only [if_neg h2]
      by_cases h3 : a0 = 6
      · simp only [if_pos h3]
        rw [show pm_tsw 1 35 4 6 #[27, 30, 33] a0 = 34 from by rw [h3]; decide +kernel]
        exact bTe_boundOf_34 ⟨rfl, rfl⟩
      · simp only [if_neg h3]
        rw [show pm_tsw 1 35 4 6 #[27, 30, 33] a0 = 36 from by
          refine pm_tsw_out (by decide +kernel) (fun z g1 g2 g3 => ?_)
          rcases (show z = 4 ∨ z = 5 ∨ z = 6 from by omega) with rfl | rfl | rfl
          · exact absurd (Int32.toInt_inj.mp (g3.trans (by decide : (4 : Int) = (4 : Int32).toInt))) h1
          · exact absurd (Int32.toInt_inj.mp (g3.trans (by decide : (5 : Int) = (5 : Int32).toInt))) h2
          · exact absurd (Int32.toInt_inj.mp (g3.trans (by decide : (6 : Int) = (6 : Int32).toInt))) h3
          ]
        refine bTe_boundOf_36 (fun h4 => ?_) (fun h4 => ?_)
        · simp only [if_pos h4]
          refine bTe_boundOf_41 ?_
          exact bTe_boundOf_47 ⟨rfl, rfl⟩
        · simp only [if_neg h4]
          refine bTe_boundOf_46 ?_
          exact bTe_boundOf_47 ⟨rfl, rfl⟩

def gWh_addPerson (k : Nat) (a1 : Int32) (M : pm_M) : pm_M := (if (4 : Int32) ≤ (M.1 4 k 0) then M else (pm_set (pm_set M 5 k (upd (M.1 5 k) (Int32.toNatClampNeg (M.1 4 k 0)) a1)) 4 k (upd (M.1 4 k) 0 ((M.1 4 k 0) + 1))))
def sWh_addPerson (k : Nat) (a1 : Int32) (M : pm_M) : Prop := (((4 : Int32) ≤ (M.1 4 k 0) → True) ∧ (¬ ((4 : Int32) ≤ (M.1 4 k 0)) → (vp_in (M.1 4 k 0) 4)))
theorem eWh_addPerson {k : Nat} {a1 : Int32} {M : pm_M} (hs : sWh_addPerson k a1 M) : pm_Ev mWh_addPerson [pm_r 4 k, pm_i a1] M none (gWh_addPerson k a1 M) := by
  refine pm_Sem_of (ls := [some (pm_r 4 k), some (pm_i a1)]) ok_mWh_addPerson (by decide +kernel) rfl (by decide) (Nat.le_of_ble_eq_true rfl) rfl ?_
  unfold gWh_addPerson
  unfold sWh_addPerson at hs
  refine bWh_addPerson_0 (fun h1 => ?_) (fun h1 => ?_)
  · simp only [if_pos h1]
    exact bWh_addPerson_28 ⟨rfl, rfl⟩
  · simp only [if_neg h1]
    refine bWh_addPerson_8 ((hs.2 h1)) ?_
    exact bWh_addPerson_28 ⟨rfl, rfl⟩

def gWh_setTrait (k : Nat) (a1 : Int32) (a2 : Int32) (a3 : Int32) (M : pm_M) : pm_M := (pm_set M 6 k (upd (M.1 6 k) (Int32.toNatClampNeg ((4 * a1) + a2)) a3))
def sWh_setTrait (k : Nat) (a1 : Int32) (a2 : Int32) (a3 : Int32) (M : pm_M) : Prop := (vp_in ((4 * a1) + a2) 16)
theorem eWh_setTrait {k : Nat} {a1 : Int32} {a2 : Int32} {a3 : Int32} {M : pm_M} (hs : sWh_setTrait k a1 a2 a3 M) : pm_Ev mWh_setTrait [pm_r 4 k, pm_i a1, pm_i a2, pm_i a3] M none (gWh_setTrait k a1 a2 a3 M) := by
  refine pm_Sem_of (ls := [some (pm_r 4 k), some (pm_i a1), some (pm_i a2), some (pm_i a3)]) ok_mWh_setTrait (by decide +kernel) rfl (by decide) (Nat.le_of_ble_eq_true rfl) rfl ?_
  unfold gWh_setTrait
  unfold sWh_setTrait at hs
  exact bWh_setTrait_0 (hs) ⟨rfl, rfl⟩

def gWh_addTicket (k : Nat) (a1 : Int32) (a2 : Int32) (a3 : Int32) (a4 : Int32) (M : pm_M) : pm_M := (if (4 : Int32) ≤ (M.1 4 k 1) then M else (pm_set (gWh_setTrait k ((gWh_setTrait k ((gWh_setTrait k ((gWh_setTrait k (M.1 4 k 1) 0 a1 M).1 4 k 1) 1 a2 (gWh_setTrait k (M.1 4 k 1) 0 a1 M)).1 4 k 1) 2 a3 (gWh_setTrait k ((gWh_setTrait k (M.1 4 k 1) 0 a1 M).1 4 k 1) 1 a2 (gWh_setTrait k (M.1 4 k 1) 0 a1 M))).1 4 k 1) 3 a4 (gWh_setTrait k ((gWh_setTrait k ((gWh_setTrait k (M.1 4 k 1) 0 a1 M).1 4 k 1) 1 a2 (gWh_setTrait k (M.1 4 k 1) 0 a1 M)).1 4 k 1) 2 a3 (gWh_setTrait k ((gWh_setTrait k (M.1 4 k 1) 0 a1 M).1 4 k 1) 1 a2 (gWh_setTrait k (M.1 4 k 1) 0 a1 M)))) 4 k (upd ((gWh_setTrait k ((gWh_setTrait k ((gWh_setTrait k ((gWh_setTrait k (M.1 4 k 1) 0 a1 M).1 4 k 1) 1 a2 (gWh_setTrait k (M.1 4 k 1) 0 a1 M)).1 4 k 1) 2 a3 (gWh_setTrait k ((gWh_setTrait k (M.1 4 k 1) 0 a1 M).1 4 k 1) 1 a2 (gWh_setTrait k (M.1 4 k 1) 0 a1 M))).1 4 k 1) 3 a4 (gWh_setTrait k ((gWh_setTrait k ((gWh_setTrait k (M.1 4 k 1) 0 a1 M).1 4 k 1) 1 a2 (gWh_setTrait k (M.1 4 k 1) 0 a1 M)).1 4 k 1) 2 a3 (gWh_setTrait k ((gWh_setTrait k (M.1 4 k 1) 0 a1 M).1 4 k 1) 1 a2 (gWh_setTrait k (M.1 4 k 1) 0 a1 M)))).1 4 k) 1 (((gWh_setTrait k ((gWh_setTrait k ((gWh_setTrait k ((gWh_setTrait k (M.1 4 k 1) 0 a1 M).1 4 k 1) 1 a2 (gWh_setTrait k (M.1 4 k 1) 0 a1 M)).1 4 k 1) 2 a3 (gWh_setTrait k ((gWh_setTrait k (M.1 4 k 1) 0 a1 M).1 4 k 1) 1 a2 (gWh_setTrait k (M.1 4 k 1) 0 a1 M))).1 4 k 1) 3 a4 (gWh_setTrait k ((gWh_setTrait k ((gWh_setTrait k (M.1 4 k 1) 0 a1 M).1 4 k 1) 1 a2 (gWh_setTrait k (M.1 4 k 1) 0 a1 M)).1 4 k 1) 2 a3 (gWh_setTrait k ((gWh_setTrait k (M.1 4 k 1) 0 a1 M).1 4 k 1) 1 a2 (gWh_setTrait k (M.1 4 k 1) 0 a1 M)))).1 4 k 1) + 1))))
def sWh_addTicket (k : Nat) (a1 : Int32) (a2 : Int32) (a3 : Int32) (a4 : Int32) (M : pm_M) : Prop := (((4 : Int32) ≤ (M.1 4 k 1) → True) ∧ (¬ ((4 : Int32) ≤ (M.1 4 k 1)) → (sWh_setTrait k (M.1 4 k 1) 0 a1 M ∧ ((sWh_setTrait k ((gWh_setTrait k (M.1 4 k 1) 0 a1 M).1 4 k 1) 1 a2 (gWh_setTrait k (M.1 4 k 1) 0 a1 M) ∧ ((sWh_setTrait k ((gWh_setTrait k ((gWh_setTrait k (M.1 4 k 1) 0 a1 M).1 4 k 1) 1 a2 (gWh_setTrait k (M.1 4 k 1) 0 a1 M)).1 4 k 1) 2 a3 (gWh_setTrait k ((gWh_setTrait k (M.1 4 k 1) 0 a1 M).1 4 k 1) 1 a2 (gWh_setTrait k (M.1 4 k 1) 0 a1 M)) ∧ ((sWh_setTrait k ((gWh_setTrait k ((gWh_setTrait k ((gWh_setTrait k (M.1 4 k 1) 0 a1 M).1 4 k 1) 1 a2 (gWh_setTrait k (M.1 4 k 1) 0 a1 M)).1 4 k 1) 2 a3 (gWh_setTrait k ((gWh_setTrait k (M.1 4 k 1) 0 a1 M).1 4 k 1) 1 a2 (gWh_setTrait k (M.1 4 k 1) 0 a1 M))).1 4 k 1) 3 a4 (gWh_setTrait k ((gWh_setTrait k ((gWh_setTrait k (M.1 4 k 1) 0 a1 M).1 4 k 1) 1 a2 (gWh_setTrait k (M.1 4 k 1) 0 a1 M)).1 4 k 1) 2 a3 (gWh_setTrait k ((gWh_setTrait k (M.1 4 k 1) 0 a1 M).1 4 k 1) 1 a2 (gWh_setTrait k (M.1 4 k 1) 0 a1 M))))))))))))
theorem eWh_addTicket {k : Nat} {a1 : Int32} {a2 : Int32} {a3 : Int32} {a4 : Int32} {M : pm_M} (hs : sWh_addTicket k a1 a2 a3 a4 M) : pm_Ev mWh_addTicket [pm_r 4 k, pm_i a1, pm_i a2, pm_i a3, pm_i a4] M none (gWh_addTicket k a1 a2 a3 a4 M) := by
  refine pm_Sem_of (ls := [some (pm_r 4 k), some (pm_i a1), some (pm_i a2), some (pm_i a3), some (pm_i a4)]) ok_mWh_addTicket (by decide +kernel) rfl (by decide) (Nat.le_of_ble_eq_true rfl) rfl ?_
  unfold gWh_addTicket
  unfold sWh_addTicket at hs
  refine bWh_addTicket_0 (fun h1 => ?_) (fun h1 => ?_)
  · simp only [if_pos h1]
    exact bWh_addTicket_59 ⟨rfl, rfl⟩
  · simp only [if_neg h1]
    refine bWh_addTicket_8 (eWh_setTrait (((hs.2 h1)).1)) ?_
    refine bWh_addTicket_18 (eWh_setTrait ((((hs.2 h1)).2).1)) ?_
    refine bWh_addTicket_28 (eWh_setTrait (((((hs.2 h1)).2).2).1)) ?_
    refine bWh_addTicket_38 (eWh_setTrait (((((hs.2 h1)).2).2).2)) ?_
    refine bWh_addTicket_49 ?_
    exact bWh_addTicket_59 ⟨rfl, rfl⟩

def gTe_put_116 (a1 : Int32) (k2 : Nat) (M : pm_M) : pm_M := (if (fWt_within a1 0 3 M) = 0 then M else (gWh_addTicket k2 a1 (M.1 24 0 (Int32.toNatClampNeg 0)) (M.1 24 0 (Int32.toNatClampNeg 1)) (M.1 24 0 (Int32.toNatClampNeg 2)) M))
def sTe_put_116 (a1 : Int32) (k2 : Nat) (M : pm_M) : Prop := ((((fWt_within a1 0 3 M) = 0 → True) ∧ (¬ ((fWt_within a1 0 3 M) = 0) → (vp_in 0 3) ∧ (vp_in 1 3) ∧ (vp_in 2 3) ∧ (sWh_addTicket k2 a1 (M.1 24 0 (Int32.toNatClampNeg 0)) (M.1 24 0 (Int32.toNatClampNeg 1)) (M.1 24 0 (Int32.toNatClampNeg 2)) M))))
theorem qTe_put_116 {a1 : Int32} {k2 : Nat} {M : pm_M} (hs : sTe_put_116 a1 k2 M) : pm_G mTe_put 116 [some (pm_r 23 0), some (pm_i a1), some (pm_r 4 k2)] [] M (pm_D none (gTe_put_116 a1 k2 M)) := by
  unfold gTe_put_116
  unfold sTe_put_116 at hs
  refine bTe_put_116 (eWt_within) ?_
  refine bTe_put_122 (fun h1 => ?_) (fun h1 => ?_)
  · simp only [if_pos h1]
    exact bTe_put_148 ⟨rfl, rfl⟩
  · simp only [if_neg h1]
    refine bTe_put_125 (((hs.2 h1)).1) ((((hs.2 h1)).2).1) (((((hs.2 h1)).2).2).1) (eWh_addTicket (((((hs.2 h1)).2).2).2)) ?_
    exact bTe_put_148 ⟨rfl, rfl⟩

def gTe_put_59 (a1 : Int32) (k2 : Nat) (M : pm_M) : pm_M := (if a1 = 6 then (if (4 : Int32) ≤ (M.1 23 0 4) then gTe_put_116 a1 k2 M else (pm_set (pm_set (pm_set M 25 0 (upd (M.1 25 0) (Int32.toNatClampNeg (M.1 23 0 4)) (M.1 24 0 (Int32.toNatClampNeg 0)))) 26 0 (upd (M.1 26 0) (Int32.toNatClampNeg (M.1 23 0 4)) (M.1 24 0 (Int32.toNatClampNeg 1)))) 23 0 (upd (M.1 23 0) 4 ((M.1 23 0 4) + 1)))) else gTe_put_116 a1 k2 M)
def sTe_put_59 (a1 : Int32) (k2 : Nat) (M : pm_M) : Prop := ((a1 = 6 → (((4 : Int32) ≤ (M.1 23 0 4) → sTe_put_116 a1 k2 M) ∧ (¬ ((4 : Int32) ≤ (M.1 23 0 4)) → (vp_in 0 3) ∧ (vp_in (M.1 23 0 4) 4) ∧ (vp_in 1 3) ∧ (vp_in (M.1 23 0 4) 4)))) ∧ (¬ (a1 = 6) → sTe_put_116 a1 k2 M))
theorem qTe_put_59 {a1 : Int32} {k2 : Nat} {M : pm_M} (hs : sTe_put_59 a1 k2 M) : pm_G mTe_put 59 [some (pm_r 23 0), some (pm_i a1), some (pm_r 4 k2)] [] M (pm_D none (gTe_put_59 a1 k2 M)) := by
  unfold gTe_put_59
  unfold sTe_put_59 at hs
  refine bTe_put_59 (fun h1 => ?_) (fun h1 => ?_)
  · simp only [if_pos h1]
    refine bTe_put_65 (fun h2 => ?_) (fun h2 => ?_)
    · simp only [if_pos h2]
      exact qTe_put_116 (((hs.1 h1)).1 h2)
    · simp only [if_neg h2]
      refine bTe_put_73 (((((hs.1 h1)).2 h2)).1) ((((((hs.1 h1)).2 h2)).2).1) (((((((hs.1 h1)).2 h2)).2).2).1) (((((((hs.1 h1)).2 h2)).2).2).2) ?_
      exact bTe_put_148 ⟨rfl, rfl⟩
  · simp only [if_neg h1]
    exact qTe_put_116 (hs.2 h1)

def gTe_put (a1 : Int32) (k2 : Nat) (M : pm_M) : pm_M := (if a1 = 4 then (gWh_addPerson k2 (M.1 24 0 (Int32.toNatClampNeg 0)) M) else (if a1 = 5 then (if (4 : Int32) ≤ (M.1 23 0 3) then gTe_put_59 a1 k2 M else (pm_set (pm_set M 8 k2 (upd (M.1 8 k2) (Int32.toNatClampNeg (M.1 23 0 3)) (M.1 24 0 (Int32.toNatClampNeg 0)))) 23 0 (upd (M.1 23 0) 3 ((M.1 23 0 3) + 1)))) else gTe_put_59 a1 k2 M))
def sTe_put (a1 : Int32) (k2 : Nat) (M : pm_M) : Prop := ((a1 = 4 → (vp_in 0 3) ∧ (sWh_addPerson k2 (M.1 24 0 (Int32.toNatClampNeg 0)) M)) ∧ (¬ (a1 = 4) → ((a1 = 5 → (((4 : Int32) ≤ (M.1 23 0 3) → sTe_put_59 a1 k2 M) ∧ (¬ ((4 : Int32) ≤ (M.1 23 0 3)) → (vp_in 0 3) ∧ (vp_in (M.1 23 0 3) 4)))) ∧ (¬ (a1 = 5) → sTe_put_59 a1 k2 M))))
theorem eTe_put {a1 : Int32} {k2 : Nat} {M : pm_M} (hs : sTe_put a1 k2 M) : pm_Ev mTe_put [pm_r 23 0, pm_i a1, pm_r 4 k2] M none (gTe_put a1 k2 M) := by
  refine pm_Sem_of (ls := [some (pm_r 23 0), some (pm_i a1), some (pm_r 4 k2)]) ok_mTe_put (by decide +kernel) rfl (by decide) (Nat.le_of_ble_eq_true rfl) rfl ?_
  unfold gTe_put
  unfold sTe_put at hs
  refine bTe_put_0 (fun h1 => ?_) (fun h1 => ?_)
  · simp only [if_pos h1]
    refine bTe_put_5 (((hs.1 h1)).1) (eWh_addPerson (((hs.1 h1)).2)) ?_
    refine bTe_put_15 ?_
    exact bTe_put_148 ⟨rfl, rfl⟩
  · simp only [if_neg h1]
    refine bTe_put_18 (fun h2 => ?_) (fun h2 => ?_)
    · simp only [if_pos h2]
      refine bTe_put_23 (fun h3 => ?_) (fun h3 => ?_)
      · simp only [if_pos h3]
        exact qTe_put_59 (((((hs.2 h1)).1 h2)).1 h3)
      · simp only [if_neg h3]
        refine bTe_put_31 (((((((hs.2 h1)).1 h2)).2 h3)).1) (((((((hs.2 h1)).1 h2)).2 h3)).2) ?_
        exact bTe_put_148 ⟨rfl, rfl⟩
    · simp only [if_neg h2]
      exact qTe_put_59 (((hs.2 h1)).2 h2)

def fWh_trait (k : Nat) (a1 : Int32) (a2 : Int32) (M : pm_M) : Int32 := (M.1 6 k (Int32.toNatClampNeg ((4 * a1) + a2)))
def sWh_trait (k : Nat) (a1 : Int32) (a2 : Int32) (M : pm_M) : Prop := (vp_in ((4 * a1) + a2) 16)
theorem eWh_trait {k : Nat} {a1 : Int32} {a2 : Int32} {M : pm_M} (hs : sWh_trait k a1 a2 M) : pm_Ev mWh_trait [pm_r 4 k, pm_i a1, pm_i a2] M (some (pm_i (fWh_trait k a1 a2 M))) M := by
  refine pm_Sem_of (ls := [some (pm_r 4 k), some (pm_i a1), some (pm_i a2)]) ok_mWh_trait (by decide +kernel) rfl (by decide) (Nat.le_of_ble_eq_true rfl) rfl ?_
  unfold fWh_trait
  unfold sWh_trait at hs
  exact bWh_trait_0 (hs) ⟨rfl, rfl⟩

def fWh_hasPerson (k : Nat) (a1 : Int32) (M : pm_M) : Int32 := (if a1 < 0 then 0 else (if (M.1 4 k 0) ≤ a1 then 0 else 1))
theorem zWh_hasPerson (k : Nat) (a1 : Int32) (M : pm_M) : narrow .boolean (.int (fWh_hasPerson k a1 M)) = .int (fWh_hasPerson k a1 M) := by
  unfold fWh_hasPerson
  repeat' split
  all_goals first | rfl | skip
theorem eWh_hasPerson {k : Nat} {a1 : Int32} {M : pm_M}  : pm_Ev mWh_hasPerson [pm_r 4 k, pm_i a1] M (some (pm_i (fWh_hasPerson k a1 M))) M := by
  refine pm_Sem_of (ls := [some (pm_r 4 k), some (pm_i a1)]) ok_mWh_hasPerson (by decide +kernel) rfl (by decide) (Nat.le_of_ble_eq_true rfl) rfl ?_
  unfold fWh_hasPerson
  refine bWh_hasPerson_0 (fun h1 => ?_) (fun h1 => ?_)
  · simp only [if_pos h1]
    refine bWh_hasPerson_16 ?_
    exact bWh_hasPerson_17 rfl ⟨rfl, rfl⟩
  · simp only [if_neg h1]
    refine bWh_hasPerson_4 (fun h2 => ?_) (fun h2 => ?_)
    · simp only [if_pos h2]
      refine bWh_hasPerson_16 ?_
      exact bWh_hasPerson_17 rfl ⟨rfl, rfl⟩
    · simp only [if_neg h2]
      refine bWh_hasPerson_12 ?_
      exact bWh_hasPerson_17 rfl ⟨rfl, rfl⟩

def fWh_hasTicket (k : Nat) (a1 : Int32) (M : pm_M) : Int32 := (if a1 < 0 then 0 else (if (M.1 4 k 1) ≤ a1 then 0 else 1))
theorem zWh_hasTicket (k : Nat) (a1 : Int32) (M : pm_M) : narrow .boolean (.int (fWh_hasTicket k a1 M)) = .int (fWh_hasTicket k a1 M) := by
  unfold fWh_hasTicket
  repeat' split
  all_goals first | rfl | skip
theorem eWh_hasTicket {k : Nat} {a1 : Int32} {M : pm_M}  : pm_Ev mWh_hasTicket [pm_r 4 k, pm_i a1] M (some (pm_i (fWh_hasTicket k a1 M))) M := by
  refine pm_Sem_of (ls := [some (pm_r 4 k), some (pm_i a1)]) ok_mWh_hasTicket (by decide +kernel) rfl (by decide) (Nat.le_of_ble_eq_true rfl) rfl ?_
  unfold fWh_hasTicket
  refine bWh_hasTicket_0 (fun h1 => ?_) (fun h1 => ?_)
  · simp only [if_pos h1]
    refine bWh_hasTicket_16 ?_
    exact bWh_hasTicket_17 rfl ⟨rfl, rfl⟩
  · simp only [if_neg h1]
    refine bWh_hasTicket_4 (fun h2 => ?_) (fun h2 => ?_)
    · simp only [if_pos h2]
      refine bWh_hasTicket_16 ?_
      exact bWh_hasTicket_17 rfl ⟨rfl, rfl⟩
    · simp only [if_neg h2]
      refine bWh_hasTicket_12 ?_
      exact bWh_hasTicket_17 rfl ⟨rfl, rfl⟩

def fWh_hasPrize (k : Nat) (a1 : Int32) (M : pm_M) : Int32 := (if a1 < 0 then 0 else (if (M.1 4 k 1) ≤ a1 then 0 else 1))
theorem zWh_hasPrize (k : Nat) (a1 : Int32) (M : pm_M) : narrow .boolean (.int (fWh_hasPrize k a1 M)) = .int (fWh_hasPrize k a1 M) := by
  unfold fWh_hasPrize
  repeat' split
  all_goals first | rfl | skip
theorem eWh_hasPrize {k : Nat} {a1 : Int32} {M : pm_M}  : pm_Ev mWh_hasPrize [pm_r 4 k, pm_i a1] M (some (pm_i (fWh_hasPrize k a1 M))) M := by
  refine pm_Sem_of (ls := [some (pm_r 4 k), some (pm_i a1)]) ok_mWh_hasPrize (by decide +kernel) rfl (by decide) (Nat.le_of_ble_eq_true rfl) rfl ?_
  unfold fWh_hasPrize
  refine bWh_hasPrize_0 (fun h1 => ?_) (fun h1 => ?_)
  · simp only [if_pos h1]
    refine bWh_hasPrize_16 ?_
    exact bWh_hasPrize_17 rfl ⟨rfl, rfl⟩
  · simp only [if_neg h1]
    refine bWh_hasPrize_4 (fun h2 => ?_) (fun h2 => ?_)
    · simp only [if_pos h2]
      refine bWh_hasPrize_16 ?_
      exact bWh_hasPrize_17 rfl ⟨rfl, rfl⟩
    · simp only [if_neg h2]
      refine bWh_hasPrize_12 ?_
      exact bWh_hasPrize_17 rfl ⟨rfl, rfl⟩

def fWh_isTicketIn (k : Nat) (a1 : Int32) (M : pm_M) : Int32 := (if (fWh_hasTicket k a1 M) = 0 then 0 else (if (M.1 7 k (Int32.toNatClampNeg a1)) = (-4) then 1 else 0))
def sWh_isTicketIn (k : Nat) (a1 : Int32) (M : pm_M) : Prop := ((((fWh_hasTicket k a1 M) = 0 → True) ∧ (¬ ((fWh_hasTicket k a1 M) = 0) → (vp_in a1 4))))
theorem zWh_isTicketIn (k : Nat) (a1 : Int32) (M : pm_M) : narrow .boolean (.int (fWh_isTicketIn k a1 M)) = .int (fWh_isTicketIn k a1 M) := by
  unfold fWh_isTicketIn
  repeat' split
  all_goals first | rfl | skip
theorem eWh_isTicketIn {k : Nat} {a1 : Int32} {M : pm_M} (hs : sWh_isTicketIn k a1 M) : pm_Ev mWh_isTicketIn [pm_r 4 k, pm_i a1] M (some (pm_i (fWh_isTicketIn k a1 M))) M := by
  refine pm_Sem_of (ls := [some (pm_r 4 k), some (pm_i a1)]) ok_mWh_isTicketIn (by decide +kernel) rfl (by decide) (Nat.le_of_ble_eq_true rfl) rfl ?_
  unfold fWh_isTicketIn
  unfold sWh_isTicketIn at hs
  refine bWh_isTicketIn_0 (eWh_hasTicket) ?_
  refine bWh_isTicketIn_5 (fun h1 => ?_) (fun h1 => ?_)
  · simp only [if_pos h1]
    refine bWh_isTicketIn_23 ?_
    exact bWh_isTicketIn_24 rfl ⟨rfl, rfl⟩
  · simp only [if_neg h1]
    refine bWh_isTicketIn_8 ((hs.2 h1)) (fun h2 => ?_) (fun h2 => ?_)
    · simp only [if_pos h2]
      refine bWh_isTicketIn_19 ?_
      exact bWh_isTicketIn_24 rfl ⟨rfl, rfl⟩
    · simp only [if_neg h2]
      refine bWh_isTicketIn_23 ?_
      exact bWh_isTicketIn_24 rfl ⟨rfl, rfl⟩

def fWh_isPrizeIn (k : Nat) (a1 : Int32) (M : pm_M) : Int32 := (if (fWh_hasPrize k a1 M) = 0 then 0 else (if (M.1 9 k (Int32.toNatClampNeg a1)) = (-4) then 1 else 0))
def sWh_isPrizeIn (k : Nat) (a1 : Int32) (M : pm_M) : Prop := ((((fWh_hasPrize k a1 M) = 0 → True) ∧ (¬ ((fWh_hasPrize k a1 M) = 0) → (vp_in a1 4))))
theorem zWh_isPrizeIn (k : Nat) (a1 : Int32) (M : pm_M) : narrow .boolean (.int (fWh_isPrizeIn k a1 M)) = .int (fWh_isPrizeIn k a1 M) := by
  unfold fWh_isPrizeIn
  repeat' split
  all_goals first | rfl | skip
theorem eWh_isPrizeIn {k : Nat} {a1 : Int32} {M : pm_M} (hs : sWh_isPrizeIn k a1 M) : pm_Ev mWh_isPrizeIn [pm_r 4 k, pm_i a1] M (some (pm_i (fWh_isPrizeIn k a1 M))) M := by
  refine pm_Sem_of (ls := [some (pm_r 4 k), some (pm_i a1)]) ok_mWh_isPrizeIn (by decide +kernel) rfl (by decide) (Nat.le_of_ble_eq_true rfl) rfl ?_
  unfold fWh_isPrizeIn
  unfold sWh_isPrizeIn at hs
  refine bWh_isPrizeIn_0 (eWh_hasPrize) ?_
  refine bWh_isPrizeIn_5 (fun h1 => ?_) (fun h1 => ?_)
  · simp only [if_pos h1]
    refine bWh_isPrizeIn_23 ?_
    exact bWh_isPrizeIn_24 rfl ⟨rfl, rfl⟩
  · simp only [if_neg h1]
    refine bWh_isPrizeIn_8 ((hs.2 h1)) (fun h2 => ?_) (fun h2 => ?_)
    · simp only [if_pos h2]
      refine bWh_isPrizeIn_19 ?_
      exact bWh_isPrizeIn_24 rfl ⟨rfl, rfl⟩
    · simp only [if_neg h2]
      refine bWh_isPrizeIn_23 ?_
      exact bWh_isPrizeIn_24 rfl ⟨rfl, rfl⟩

def fWh_refusal (k : Nat) (a1 : Int32) (a2 : Int32) (M : pm_M) : Int32 := (if (fWh_hasTicket k a1 M) = 0 then (-1) else (if (fWh_hasPrize k a2 M) = 0 then (-1) else (if (fWh_isTicketIn k a1 M) = 0 then (-2) else (if (fWh_isPrizeIn k a2 M) = 0 then (-2) else 0))))
def sWh_refusal (k : Nat) (a1 : Int32) (a2 : Int32) (M : pm_M) : Prop := ((((fWh_hasTicket k a1 M) = 0 → True) ∧ (¬ ((fWh_hasTicket k a1 M) = 0) → ((((fWh_hasPrize k a2 M) = 0 → True) ∧ (¬ ((fWh_hasPrize k a2 M) = 0) → (sWh_isTicketIn k a1 M ∧ ((((fWh_isTicketIn k a1 M) = 0 → True) ∧ (¬ ((fWh_isTicketIn k a1 M) = 0) → (sWh_isPrizeIn k a2 M)))))))))))
theorem eWh_refusal {k : Nat} {a1 : Int32} {a2 : Int32} {M : pm_M} (hs : sWh_refusal k a1 a2 M) : pm_Ev mWh_refusal [pm_r 4 k, pm_i a1, pm_i a2] M (some (pm_i (fWh_refusal k a1 a2 M))) M := by
  refine pm_Sem_of (ls := [some (pm_r 4 k), some (pm_i a1), some (pm_i a2)]) ok_mWh_refusal (by decide +kernel) rfl (by decide) (Nat.le_of_ble_eq_true rfl) rfl ?_
  unfold fWh_refusal
  unfold sWh_refusal at hs
  refine bWh_refusal_0 (eWh_hasTicket) ?_
  refine bWh_refusal_5 (fun h1 => ?_) (fun h1 => ?_)
  · simp only [if_pos h1]
    exact bWh_refusal_16 ⟨rfl, rfl⟩
  · simp only [if_neg h1]
    refine bWh_refusal_8 (eWh_hasPrize) ?_
    refine bWh_refusal_13 (fun h2 => ?_) (fun h2 => ?_)
    · simp only [if_pos h2]
      exact bWh_refusal_16 ⟨rfl, rfl⟩
    · simp only [if_neg h2]
      refine bWh_refusal_18 (eWh_isTicketIn (((((hs.2 h1)).2 h2)).1)) ?_
      refine bWh_refusal_23 (fun h3 => ?_) (fun h3 => ?_)
      · simp only [if_pos h3]
        refine bWh_refusal_38 ?_
        exact bWh_refusal_40 ⟨rfl, rfl⟩
      · simp only [if_neg h3]
        refine bWh_refusal_26 (eWh_isPrizeIn (((((((hs.2 h1)).2 h2)).2).2 h3))) ?_
        refine bWh_refusal_31 (fun h4 => ?_) (fun h4 => ?_)
        · simp only [if_pos h4]
          refine bWh_refusal_38 ?_
          exact bWh_refusal_40 ⟨rfl, rfl⟩
        · simp only [if_neg h4]
          refine bWh_refusal_34 ?_
          exact bWh_refusal_40 ⟨rfl, rfl⟩

def fWh_sharedOut_15 (k : Nat) (a1 : Int32) (a2 : Int32) (a3 : Int32) (a4 : Int32) (x0 : Int32) (M : pm_M) : Int32 := (if (fWh_trait k a1 2 M) = a2 then (x0 + a4) else (x0 + 0))
def sWh_sharedOut_15 (k : Nat) (a1 : Int32) (a2 : Int32) (a3 : Int32) (a4 : Int32) (x0 : Int32) (M : pm_M) : Prop := (sWh_trait k a1 2 M)
theorem qWh_sharedOut_15 {k : Nat} {a1 : Int32} {a2 : Int32} {a3 : Int32} {a4 : Int32} {x0 : Int32} {M : pm_M} (hs : sWh_sharedOut_15 k a1 a2 a3 a4 x0 M) : pm_G mWh_sharedOut 15 [some (pm_r 4 k), some (pm_i a1), some (pm_i a2), some (pm_i a3), some (pm_i a4)] [pm_i x0] M (pm_D (some (pm_i (fWh_sharedOut_15 k a1 a2 a3 a4 x0 M))) M) := by
  unfold fWh_sharedOut_15
  unfold sWh_sharedOut_15 at hs
  refine bWh_sharedOut_15 (eWh_trait (hs)) ?_
  refine bWh_sharedOut_21 (fun h1 => ?_) (fun h1 => ?_)
  · simp only [if_pos h1]
    refine bWh_sharedOut_25 ?_
    exact bWh_sharedOut_31 ⟨rfl, rfl⟩
  · simp only [if_neg h1]
    refine bWh_sharedOut_30 ?_
    exact bWh_sharedOut_31 ⟨rfl, rfl⟩

def fWh_sharedOut (k : Nat) (a1 : Int32) (a2 : Int32) (a3 : Int32) (a4 : Int32) (M : pm_M) : Int32 := (if (fWh_trait k a1 1 M) = a2 then fWh_sharedOut_15 k a1 a2 a3 a4 a3 M else fWh_sharedOut_15 k a1 a2 a3 a4 0 M)
def sWh_sharedOut (k : Nat) (a1 : Int32) (a2 : Int32) (a3 : Int32) (a4 : Int32) (M : pm_M) : Prop := (sWh_trait k a1 1 M ∧ ((((fWh_trait k a1 1 M) = a2 → (sWh_sharedOut_15 k a1 a2 a3 a4 a3 M)) ∧ (¬ ((fWh_trait k a1 1 M) = a2) → (sWh_sharedOut_15 k a1 a2 a3 a4 0 M)))))
theorem eWh_sharedOut {k : Nat} {a1 : Int32} {a2 : Int32} {a3 : Int32} {a4 : Int32} {M : pm_M} (hs : sWh_sharedOut k a1 a2 a3 a4 M) : pm_Ev mWh_sharedOut [pm_r 4 k, pm_i a1, pm_i a2, pm_i a3, pm_i a4] M (some (pm_i (fWh_sharedOut k a1 a2 a3 a4 M))) M := by
  refine pm_Sem_of (ls := [some (pm_r 4 k), some (pm_i a1), some (pm_i a2), some (pm_i a3), some (pm_i a4)]) ok_mWh_sharedOut (by decide +kernel) rfl (by decide) (Nat.le_of_ble_eq_true rfl) rfl ?_
  unfold fWh_sharedOut
  unfold sWh_sharedOut at hs
  refine bWh_sharedOut_0 (eWh_trait (hs.1)) ?_
  refine bWh_sharedOut_6 (fun h1 => ?_) (fun h1 => ?_)
  · simp only [if_pos h1]
    refine bWh_sharedOut_10 ?_
    exact qWh_sharedOut_15 (hs.2.1 h1)
  · simp only [if_neg h1]
    refine bWh_sharedOut_14 ?_
    exact qWh_sharedOut_15 (hs.2.2 h1)

def fWh_feeFor_37 (k : Nat) (a1 : Int32) (a2 : Int32) (a3 : Int32) (x0 : Int32) (M : pm_M) : Int32 := (fWh_sharedOut k a1 a2 x0 (-x0) M)
def sWh_feeFor_37 (k : Nat) (a1 : Int32) (a2 : Int32) (a3 : Int32) (x0 : Int32) (M : pm_M) : Prop := (sWh_sharedOut k a1 a2 x0 (-x0) M)
theorem qWh_feeFor_37 {k : Nat} {a1 : Int32} {a2 : Int32} {a3 : Int32} {x0 : Int32} {M : pm_M} (hs : sWh_feeFor_37 k a1 a2 a3 x0 M) : pm_G mWh_feeFor 37 [some (pm_r 4 k), some (pm_i a1), some (pm_i a2), some (pm_i a3), none] [pm_i x0] M (pm_D (some (pm_i (fWh_feeFor_37 k a1 a2 a3 x0 M))) M) := by
  unfold fWh_feeFor_37
  unfold sWh_feeFor_37 at hs
  refine bWh_feeFor_37 (eWh_sharedOut (hs)) ?_
  exact bWh_feeFor_50 ⟨rfl, rfl⟩

def fWh_feeFor (k : Nat) (a1 : Int32) (a2 : Int32) (M : pm_M) : Int32 := (if (fWh_trait k a1 0 M) = 1 then fWh_feeFor_37 k a1 a2 (fWh_trait k a1 0 M) (fWh_trait k a1 3 M) M else (if (fWh_trait k a1 0 M) = 3 then fWh_feeFor_37 k a1 a2 (fWh_trait k a1 0 M) (-(fWh_trait k a1 3 M)) M else fWh_feeFor_37 k a1 a2 (fWh_trait k a1 0 M) 0 M))
def sWh_feeFor (k : Nat) (a1 : Int32) (a2 : Int32) (M : pm_M) : Prop := (sWh_trait k a1 0 M ∧ ((((fWh_trait k a1 0 M) = 1 → (sWh_trait k a1 3 M ∧ ((sWh_feeFor_37 k a1 a2 (fWh_trait k a1 0 M) (fWh_trait k a1 3 M) M)))) ∧ (¬ ((fWh_trait k a1 0 M) = 1) → (((fWh_trait k a1 0 M) = 3 → (sWh_trait k a1 3 M ∧ ((sWh_feeFor_37 k a1 a2 (fWh_trait k a1 0 M) (-(fWh_trait k a1 3 M)) M)))) ∧ (¬ ((fWh_trait k a1 0 M) = 3) → (sWh_feeFor_37 k a1 a2 (fWh_trait k a1 0 M) 0 M)))))))
theorem eWh_feeFor {k : Nat} {a1 : Int32} {a2 : Int32} {M : pm_M} (hs : sWh_feeFor k a1 a2 M) : pm_Ev mWh_feeFor [pm_r 4 k, pm_i a1, pm_i a2] M (some (pm_i (fWh_feeFor k a1 a2 M))) M := by
  refine pm_Sem_of (ls := [some (pm_r 4 k), some (pm_i a1), some (pm_i a2), none, none]) ok_mWh_feeFor (by decide +kernel) rfl (by decide) (Nat.le_of_ble_eq_true rfl) rfl ?_
  unfold fWh_feeFor
  unfold sWh_feeFor at hs
  refine bWh_feeFor_0 (eWh_trait (hs.1)) ?_
  refine bWh_feeFor_6 (fun h1 => ?_) (fun h1 => ?_)
  · simp only [if_pos h1]
    refine bWh_feeFor_12 (eWh_trait (((hs.2.1 h1)).1)) ?_
    refine bWh_feeFor_18 ?_
    exact qWh_feeFor_37 ((hs.2.1 h1)).2
  · simp only [if_neg h1]
    refine bWh_feeFor_21 (fun h2 => ?_) (fun h2 => ?_)
    · simp only [if_pos h2]
      refine bWh_feeFor_26 (eWh_trait (((((hs.2.2 h1)).1 h2)).1)) ?_
      refine bWh_feeFor_32 ?_
      exact qWh_feeFor_37 ((((hs.2.2 h1)).1 h2)).2
    · simp only [if_neg h2]
      refine bWh_feeFor_36 ?_
      exact qWh_feeFor_37 (((hs.2.2 h1)).2 h2)

def fWh_shareFor_16 (k : Nat) (a1 : Int32) (a2 : Int32) (a3 : Int32) (x0 : Int32) (M : pm_M) : Int32 := (if (fWh_trait k a1 0 M) = 1 then (fWh_sharedOut k a1 a3 0 a2 M) else (if (fWh_trait k a1 0 M) = 2 then (fWh_sharedOut k a1 a3 (a2 - (a2 / 2)) (a2 / 2) M) else (if (fWh_trait k a1 0 M) = 3 then (fWh_sharedOut k a1 a3 (a2 + x0) (-x0) M) else (fWh_sharedOut k a1 a3 a2 0 M))))
def sWh_shareFor_16 (k : Nat) (a1 : Int32) (a2 : Int32) (a3 : Int32) (x0 : Int32) (M : pm_M) : Prop := (sWh_trait k a1 0 M ∧ ((((fWh_trait k a1 0 M) = 1 → (sWh_sharedOut k a1 a3 0 a2 M)) ∧ (¬ (fWh_trait k a1 0 M) = 1 → (((fWh_trait k a1 0 M) = 2 → (¬ (2 : Int32) = 0) ∧ (¬ (2 : Int32) = 0) ∧ (sWh_sharedOut k a1 a3 (a2 - (a2 / 2)) (a2 / 2) M)) ∧ (¬ (fWh_trait k a1 0 M) = 2 → (((fWh_trait k a1 0 M) = 3 → (sWh_sharedOut k a1 a3 (a2 + x0) (-x0) M)) ∧ (¬ (fWh_trait k a1 0 M) = 3 → ((sWh_sharedOut k a1 a3 a2 0 M))))))))))
theorem qWh_shareFor_16 {k : Nat} {a1 : Int32} {a2 : Int32} {a3 : Int32} {x0 : Int32} {M : pm_M} (hs : sWh_shareFor_16 k a1 a2 a3 x0 M) : pm_G mWh_shareFor 16 [some (pm_r 4 k), some (pm_i a1), some (pm_i a2), some (pm_i a3), none] [pm_i x0] M (pm_D (some (pm_i (fWh_shareFor_16 k a1 a2 a3 x0 M))) M) := by
  unfold fWh_shareFor_16
  unfold sWh_shareFor_16 at hs
  refine bWh_shareFor_16 (eWh_trait (hs.1)) ?_
  refine bWh_shareFor_24 ?_
  by_cases h1 : (fWh_trait k a1 0 M) = 1
  · simp only [if_pos h1]
    rw [show pm_tsw 24 66 1 3 #[28, 37, 52] (fWh_trait k a1 0 M) = 52 from by rw [h1]; decide +kernel]
    refine bWh_shareFor_52 (eWh_sharedOut ((hs.2.1 h1))) ?_
    exact bWh_shareFor_60 ⟨rfl, rfl⟩
  · simp only [if_neg h1]
    by_cases h2 : (fWh_trait k a1 0 M) = 2
    · simp only [if_pos h2]
      rw [show pm_tsw 24 66 1 3 #[28, 37, 52] (fWh_trait k a1 0 M) = 61 from by rw [h2]; decide +kernel]
      refine bWh_shareFor_61 ((((hs.2.2 h1).1 h2)).1) (((((hs.2.2 h1).1 h2)).2).1) (eWh_sharedOut (((((hs.2.2 h1).1 h2)).2).2)) ?_
      exact bWh_shareFor_75 ⟨rfl, rfl⟩
    · simp only [if_neg h2]
      by_cases h3 : (fWh_trait k a1 0 M) = 3
      · simp only [if_pos h3]
        rw [show pm_tsw 24 66 1 3 #[28, 37, 52] (fWh_trait k a1 0 M) = 76 from by rw [h3]; decide +kernel]
        refine bWh_shareFor_76 (eWh_sharedOut ((((hs.2.2 h1).2 h2).1 h3))) ?_
        exact bWh_shareFor_89 ⟨rfl, rfl⟩
      · simp only [if_neg h3]
        rw [show pm_tsw 24 66 1 3 #[28, 37, 52] (fWh_trait k a1 0 M) = 90 from by
          refine pm_tsw_out (by decide +kernel) (fun z g1 g2 g3 => ?_)
          rcases (show z = 1 ∨ z = 2 ∨ z = 3 from by omega) with rfl | rfl | rfl
          · exact absurd (Int32.toInt_inj.mp (g3.trans (by decide : (1 : Int) = (1 : Int32).toInt))) h1
          · exact absurd (Int32.toInt_inj.mp (g3.trans (by decide : (2 : Int) = (2 : Int32).toInt))) h2
          · exact absurd (Int32.toInt_inj.mp (g3.trans (by decide : (3 : Int) = (3 : Int32).toInt))) h3
          ]
        refine bWh_shareFor_90 (eWh_sharedOut ((((hs.2.2 h1).2 h2).2 h3))) ?_
        exact bWh_shareFor_98 ⟨rfl, rfl⟩

def fWh_shareFor (k : Nat) (a1 : Int32) (a2 : Int32) (a3 : Int32) (M : pm_M) : Int32 := (if a2 = 0 then fWh_shareFor_16 k a1 a2 a3 (5 * (fWh_trait k a1 3 M)) M else fWh_shareFor_16 k a1 a2 a3 0 M)
def sWh_shareFor (k : Nat) (a1 : Int32) (a2 : Int32) (a3 : Int32) (M : pm_M) : Prop := ((a2 = 0 → (sWh_trait k a1 3 M ∧ ((sWh_shareFor_16 k a1 a2 a3 (5 * (fWh_trait k a1 3 M)) M)))) ∧ (¬ (a2 = 0) → (sWh_shareFor_16 k a1 a2 a3 0 M)))
theorem eWh_shareFor {k : Nat} {a1 : Int32} {a2 : Int32} {a3 : Int32} {M : pm_M} (hs : sWh_shareFor k a1 a2 a3 M) : pm_Ev mWh_shareFor [pm_r 4 k, pm_i a1, pm_i a2, pm_i a3] M (some (pm_i (fWh_shareFor k a1 a2 a3 M))) M := by
  refine pm_Sem_of (ls := [some (pm_r 4 k), some (pm_i a1), some (pm_i a2), some (pm_i a3), none]) ok_mWh_shareFor (by decide +kernel) rfl (by decide) (Nat.le_of_ble_eq_true rfl) rfl ?_
  unfold fWh_shareFor
  unfold sWh_shareFor at hs
  refine bWh_shareFor_0 (fun h1 => ?_) (fun h1 => ?_)
  · simp only [if_pos h1]
    refine bWh_shareFor_4 (eWh_trait (((hs.1 h1)).1)) ?_
    refine bWh_shareFor_11 ?_
    exact qWh_shareFor_16 ((hs.1 h1)).2
  · simp only [if_neg h1]
    refine bWh_shareFor_15 ?_
    exact qWh_shareFor_16 (hs.2 h1)

def gWh_copy (k : Nat) (k1 : Nat) (M : pm_M) : pm_M := (pm_set (pm_set (pm_set (pm_set (pm_set (pm_set (pm_set (pm_set (pm_set (pm_set M 4 k (upd (M.1 4 k) 0 (M.1 4 k1 0))) 4 k (upd ((pm_set M 4 k (upd (M.1 4 k) 0 (M.1 4 k1 0))).1 4 k) 1 ((pm_set M 4 k (upd (M.1 4 k) 0 (M.1 4 k1 0))).1 4 k1 1))) 4 k (upd ((pm_set (pm_set M 4 k (upd (M.1 4 k) 0 (M.1 4 k1 0))) 4 k (upd ((pm_set M 4 k (upd (M.1 4 k) 0 (M.1 4 k1 0))).1 4 k) 1 ((pm_set M 4 k (upd (M.1 4 k) 0 (M.1 4 k1 0))).1 4 k1 1))).1 4 k) 2 ((pm_set (pm_set M 4 k (upd (M.1 4 k) 0 (M.1 4 k1 0))) 4 k (upd ((pm_set M 4 k (upd (M.1 4 k) 0 (M.1 4 k1 0))).1 4 k) 1 ((pm_set M 4 k (upd (M.1 4 k) 0 (M.1 4 k1 0))).1 4 k1 1))).1 4 k1 2))) 5 k (va_cpy (M.1 5 k1) (M.1 5 k) 0 0 (Int32.toNatClampNeg 4))) 6 k (va_cpy (M.1 6 k1) (M.1 6 k) 0 0 (Int32.toNatClampNeg 16))) 7 k (va_cpy (M.1 7 k1) (M.1 7 k) 0 0 (Int32.toNatClampNeg 4))) 8 k (va_cpy (M.1 8 k1) (M.1 8 k) 0 0 (Int32.toNatClampNeg 4))) 9 k (va_cpy (M.1 9 k1) (M.1 9 k) 0 0 (Int32.toNatClampNeg 4))) 10 k (va_cpy (M.1 10 k1) (M.1 10 k) 0 0 (Int32.toNatClampNeg 6))) 11 k (va_cpy (M.1 11 k1) (M.1 11 k) 0 0 (Int32.toNatClampNeg 6)))
theorem eWh_copy {k : Nat} {k1 : Nat} {M : pm_M}  : pm_Ev mWh_copy [pm_r 4 k, pm_r 4 k1] M none (gWh_copy k k1 M) := by
  refine pm_Sem_of (ls := [some (pm_r 4 k), some (pm_r 4 k1)]) ok_mWh_copy (by decide +kernel) rfl (by decide) (Nat.le_of_ble_eq_true rfl) rfl ?_
  unfold gWh_copy
  refine bWh_copy_0 ?_
  refine bWh_copy_38 ?_
  refine bWh_copy_53 ?_
  refine bWh_copy_67 ?_
  refine bWh_copy_81 ?_
  refine bWh_copy_95 ?_
  refine bWh_copy_110 ?_
  exact bWh_copy_125 ⟨rfl, rfl⟩

def fWt_feed (a1 : Int32) (M : pm_M) : Int32 := (if (fWt_within a1 0 127 M) = 0 then (-1) else (if (fTa_put a1 M) = 0 then (-3) else ((gTa_put a1 M).1 21 0 1)))
def gWt_feed (a1 : Int32) (M : pm_M) : pm_M := (if (fWt_within a1 0 127 M) = 0 then M else (if (fTa_put a1 M) = 0 then (gTa_put a1 M) else (gTa_put a1 M)))
def sWt_feed (a1 : Int32) (M : pm_M) : Prop := ((((fWt_within a1 0 127 M) = 0 → True) ∧ (¬ ((fWt_within a1 0 127 M) = 0) → (sTa_put a1 M))))
theorem eWt_feed {a1 : Int32} {M : pm_M} (hs : sWt_feed a1 M) : pm_Ev mWt_feed [pm_r 0 0, pm_i a1] M (some (pm_i (fWt_feed a1 M))) (gWt_feed a1 M) := by
  refine pm_Sem_of (ls := [some (pm_r 0 0), some (pm_i a1)]) ok_mWt_feed (by decide +kernel) rfl (by decide) (Nat.le_of_ble_eq_true rfl) rfl ?_
  unfold fWt_feed gWt_feed
  unfold sWt_feed at hs
  refine bWt_feed_0 (eWt_within) ?_
  refine bWt_feed_7 (fun h1 => ?_) (fun h1 => ?_)
  · simp only [if_pos h1]
    exact bWt_feed_10 ⟨rfl, rfl⟩
  · simp only [if_neg h1]
    refine bWt_feed_12 (eTa_put ((hs.2 h1))) ?_
    refine bWt_feed_20 (fun h2 => ?_) (fun h2 => ?_)
    · simp only [if_pos h2]
      refine bWt_feed_33 ?_
      exact bWt_feed_35 ⟨rfl, rfl⟩
    · simp only [if_neg h2]
      refine bWt_feed_23 ?_
      exact bWt_feed_35 ⟨rfl, rfl⟩

def fWt_end (a1 : Int32) (M : pm_M) : Int32 := (if (fWt_within a1 0 (M.1 21 0 1) M) = 0 then (-1) else (M.1 21 0 1))
def gWt_end (a1 : Int32) (M : pm_M) : pm_M := (if (fWt_within a1 0 (M.1 21 0 1) M) = 0 then M else (pm_set M 21 0 (upd (M.1 21 0) 1 a1)))
theorem eWt_end {a1 : Int32} {M : pm_M}  : pm_Ev mWt_end [pm_r 0 0, pm_i a1] M (some (pm_i (fWt_end a1 M))) (gWt_end a1 M) := by
  refine pm_Sem_of (ls := [some (pm_r 0 0), some (pm_i a1), none]) ok_mWt_end (by decide +kernel) rfl (by decide) (Nat.le_of_ble_eq_true rfl) rfl ?_
  unfold fWt_end gWt_end
  refine bWt_end_0 (eWt_within) ?_
  refine bWt_end_12 (fun h1 => ?_) (fun h1 => ?_)
  · simp only [if_pos h1]
    exact bWt_end_15 ⟨rfl, rfl⟩
  · simp only [if_neg h1]
    exact bWt_end_17 ⟨rfl, rfl⟩

def fWt_fault  (M : pm_M) : Int32 := (M.1 23 0 0)
theorem eWt_fault  {M : pm_M}  : pm_Ev mWt_fault [pm_r 0 0] M (some (pm_i (fWt_fault  M))) M := by
  refine pm_Sem_of (ls := [some (pm_r 0 0)]) ok_mWt_fault (by decide +kernel) rfl (by decide) (Nat.le_of_ble_eq_true rfl) rfl ?_
  unfold fWt_fault
  exact bWt_fault_0 ⟨rfl, rfl⟩

def fIn_bitCount (a0 : Int32) (M : pm_M) : Int32 := ((((((((a0 - (((a0.toUInt32 >>> ((1 : Int32).toUInt32 &&& Int32.toUInt32 31)).toInt32) &&& 1431655765)) &&& 858993459) + ((((a0 - (((a0.toUInt32 >>> ((1 : Int32).toUInt32 &&& Int32.toUInt32 31)).toInt32) &&& 1431655765)).toUInt32 >>> ((2 : Int32).toUInt32 &&& Int32.toUInt32 31)).toInt32) &&& 858993459)) + (((((a0 - (((a0.toUInt32 >>> ((1 : Int32).toUInt32 &&& Int32.toUInt32 31)).toInt32) &&& 1431655765)) &&& 858993459) + ((((a0 - (((a0.toUInt32 >>> ((1 : Int32).toUInt32 &&& Int32.toUInt32 31)).toInt32) &&& 1431655765)).toUInt32 >>> ((2 : Int32).toUInt32 &&& Int32.toUInt32 31)).toInt32) &&& 858993459)).toUInt32 >>> ((4 : Int32).toUInt32 &&& Int32.toUInt32 31)).toInt32)) &&& 252645135) + (((((((a0 - (((a0.toUInt32 >>> ((1 : Int32).toUInt32 &&& Int32.toUInt32 31)).toInt32) &&& 1431655765)) &&& 858993459) + ((((a0 - (((a0.toUInt32 >>> ((1 : Int32).toUInt32 &&& Int32.toUInt32 31)).toInt32) &&& 1431655765)).toUInt32 >>> ((2 : Int32).toUInt32 &&& Int32.toUInt32 31)).toInt32) &&& 858993459)) + (((((a0 - (((a0.toUInt32 >>> ((1 : Int32).toUInt32 &&& Int32.toUInt32 31)).toInt32) &&& 1431655765)) &&& 858993459) + ((((a0 - (((a0.toUInt32 >>> ((1 : Int32).toUInt32 &&& Int32.toUInt32 31)).toInt32) &&& 1431655765)).toUInt32 >>> ((2 : Int32).toUInt32 &&& Int32.toUInt32 31)).toInt32) &&& 858993459)).toUInt32 >>> ((4 : Int32).toUInt32 &&& Int32.toUInt32 31)).toInt32)) &&& 252645135).toUInt32 >>> ((8 : Int32).toUInt32 &&& Int32.toUInt32 31)).toInt32)) + ((((((((a0 - (((a0.toUInt32 >>> ((1 : Int32).toUInt32 &&& Int32.toUInt32 31)).toInt32) &&& 1431655765)) &&& 858993459) + ((((a0 - (((a0.toUInt32 >>> ((1 : Int32).toUInt32 &&& Int32.toUInt32 31)).toInt32) &&& 1431655765)).toUInt32 >>> ((2 : Int32).toUInt32 &&& Int32.toUInt32 31)).toInt32) &&& 858993459)) + (((((a0 - (((a0.toUInt32 >>> ((1 : Int32).toUInt32 &&& Int32.toUInt32 31)).toInt32) &&& 1431655765)) &&& 858993459) + ((((a0 - (((a0.toUInt32 >>> ((1 : Int32).toUInt32 &&& Int32.toUInt32 31)).toInt32) &&& 1431655765)).toUInt32 >>> ((2 : Int32).toUInt32 &&& Int32.toUInt32 31)).toInt32) &&& 858993459)).toUInt32 >>> ((4 : Int32).toUInt32 &&& Int32.toUInt32 31)).toInt32)) &&& 252645135) + (((((((a0 - (((a0.toUInt32 >>> ((1 : Int32).toUInt32 &&& Int32.toUInt32 31)).toInt32) &&& 1431655765)) &&& 858993459) + ((((a0 - (((a0.toUInt32 >>> ((1 : Int32).toUInt32 &&& Int32.toUInt32 31)).toInt32) &&& 1431655765)).toUInt32 >>> ((2 : Int32).toUInt32 &&& Int32.toUInt32 31)).toInt32) &&& 858993459)) + (((((a0 - (((a0.toUInt32 >>> ((1 : Int32).toUInt32 &&& Int32.toUInt32 31)).toInt32) &&& 1431655765)) &&& 858993459) + ((((a0 - (((a0.toUInt32 >>> ((1 : Int32).toUInt32 &&& Int32.toUInt32 31)).toInt32) &&& 1431655765)).toUInt32 >>> ((2 : Int32).toUInt32 &&& Int32.toUInt32 31)).toInt32) &&& 858993459)).toUInt32 >>> ((4 : Int32).toUInt32 &&& Int32.toUInt32 31)).toInt32)) &&& 252645135).toUInt32 >>> ((8 : Int32).toUInt32 &&& Int32.toUInt32 31)).toInt32)).toUInt32 >>> ((16 : Int32).toUInt32 &&& Int32.toUInt32 31)).toInt32)) &&& 63)
theorem eIn_bitCount {a0 : Int32} {M : pm_M}  : pm_Ev mIn_bitCount [pm_i a0] M (some (pm_i (fIn_bitCount a0 M))) M := by
  refine pm_Sem_of (ls := [some (pm_i a0)]) ok_mIn_bitCount (by decide +kernel) rfl (by decide) (Nat.le_of_ble_eq_true rfl) rfl ?_
  unfold fIn_bitCount
  exact bIn_bitCount_0 ⟨rfl, rfl⟩

def fWh_takesTrait (k : Nat) (a1 : Int32) (a2 : Int32) (M : pm_M) : Int32 := (if a1 = 0 then (fWt_within a2 0 3 M) else (if a1 = 1 then (fWh_hasPerson k a2 M) else (if a1 = 2 then (fWh_hasPerson k a2 M) else (if a1 = 3 then (fWt_within a2 0 9 M) else 0))))
theorem zWh_takesTrait (k : Nat) (a1 : Int32) (a2 : Int32) (M : pm_M) : narrow .boolean (.int (fWh_takesTrait k a1 a2 M)) = .int (fWh_takesTrait k a1 a2 M) := by
  unfold fWh_takesTrait
  repeat' split
  all_goals first | rfl | exact zWt_within a2 0 3 M | exact zWh_hasPerson k a2 M | exact zWh_hasPerson k a2 M | exact zWt_within a2 0 9 M | skip
theorem eWh_takesTrait {k : Nat} {a1 : Int32} {a2 : Int32} {M : pm_M}  : pm_Ev mWh_takesTrait [pm_r 4 k, pm_i a1, pm_i a2] M (some (pm_i (fWh_takesTrait k a1 a2 M))) M := by
  refine pm_Sem_of (ls := [some (pm_r 4 k), some (pm_i a1), some (pm_i a2)]) ok_mWh_takesTrait (by decide +kernel) rfl (by decide) (Nat.le_of_ble_eq_true rfl) rfl ?_
  unfold fWh_takesTrait
  refine bWh_takesTrait_0 ?_
  by_cases h1 : a1 = 0
  · simp only [if_pos h1]
    rw [show pm_tsw 1 58 0 3 #[31, 38, 44, 50] a1 = 32 from by rw [h1]; decide +kernel]
    refine bWh_takesTrait_32 (eWt_within) ?_
    exact bWh_takesTrait_38 (zWt_within a2 0 3 M) ⟨rfl, rfl⟩
  · simp only [if_neg h1]
    by_cases h2 : a1 = 1
    · simp only [if_pos h2]
      rw [show pm_tsw 1 58 0 3 #[31, 38, 44, 50] a1 = 39 from by rw [h2]; decide +kernel]
      refine bWh_takesTrait_39 (eWh_hasPerson) ?_
      exact bWh_takesTrait_44 (zWh_hasPerson k a2 M) ⟨rfl, rfl⟩
    · simp only [if_neg h2]
      by_cases h3 : a1 = 2
      · simp only [if_pos h3]
        rw [show pm_tsw 1 58 0 3 #[31, 38, 44, 50] a1 = 45 from by rw [h3]; decide +kernel]
        refine bWh_takesTrait_45 (eWh_hasPerson) ?_
        exact bWh_takesTrait_50 (zWh_hasPerson k a2 M) ⟨rfl, rfl⟩
      · simp only [if_neg h3]
        by_cases h4 : a1 = 3
        · simp only [if_pos h4]
          rw [show pm_tsw 1 58 0 3 #[31, 38, 44, 50] a1 = 51 from by rw [h4]; decide +kernel]
          refine bWh_takesTrait_51 (eWt_within) ?_
          exact bWh_takesTrait_58 (zWt_within a2 0 9 M) ⟨rfl, rfl⟩
        · simp only [if_neg h4]
          rw [show pm_tsw 1 58 0 3 #[31, 38, 44, 50] a1 = 59 from by
            refine pm_tsw_out (by decide +kernel) (fun z g1 g2 g3 => ?_)
            rcases (show z = 0 ∨ z = 1 ∨ z = 2 ∨ z = 3 from by omega) with rfl | rfl | rfl | rfl
            · exact absurd (Int32.toInt_inj.mp (g3.trans (by decide : (0 : Int) = (0 : Int32).toInt))) h1
            · exact absurd (Int32.toInt_inj.mp (g3.trans (by decide : (1 : Int) = (1 : Int32).toInt))) h2
            · exact absurd (Int32.toInt_inj.mp (g3.trans (by decide : (2 : Int) = (2 : Int32).toInt))) h3
            · exact absurd (Int32.toInt_inj.mp (g3.trans (by decide : (3 : Int) = (3 : Int32).toInt))) h4
            ]
          exact bWh_takesTrait_59 rfl ⟨rfl, rfl⟩

def fWt_ticket (a1 : Int32) (a2 : Int32) (M : pm_M) : Int32 := (if (fWh_hasTicket 0 a1 M) = 0 then (-1) else (if (fWt_within a2 0 4 M) = 0 then (-1) else (if (4 : Int32) ≤ a2 then (M.1 7 0 (Int32.toNatClampNeg a1)) else (fWh_trait 0 a1 a2 M))))
def sWt_ticket (a1 : Int32) (a2 : Int32) (M : pm_M) : Prop := ((((fWh_hasTicket 0 a1 M) = 0 → True) ∧ (¬ ((fWh_hasTicket 0 a1 M) = 0) → ((((fWt_within a2 0 4 M) = 0 → True) ∧ (¬ ((fWt_within a2 0 4 M) = 0) → (((4 : Int32) ≤ a2 → (vp_in a1 4)) ∧ (¬ ((4 : Int32) ≤ a2) → (sWh_trait 0 a1 a2 M)))))))))
theorem eWt_ticket {a1 : Int32} {a2 : Int32} {M : pm_M} (hs : sWt_ticket a1 a2 M) : pm_Ev mWt_ticket [pm_r 0 0, pm_i a1, pm_i a2] M (some (pm_i (fWt_ticket a1 a2 M))) M := by
  refine pm_Sem_of (ls := [some (pm_r 0 0), some (pm_i a1), some (pm_i a2)]) ok_mWt_ticket (by decide +kernel) rfl (by decide) (Nat.le_of_ble_eq_true rfl) rfl ?_
  unfold fWt_ticket
  unfold sWt_ticket at hs
  refine bWt_ticket_0 (eWh_hasTicket) ?_
  refine bWt_ticket_8 (fun h1 => ?_) (fun h1 => ?_)
  · simp only [if_pos h1]
    exact bWt_ticket_20 ⟨rfl, rfl⟩
  · simp only [if_neg h1]
    refine bWt_ticket_11 (eWt_within) ?_
    refine bWt_ticket_17 (fun h2 => ?_) (fun h2 => ?_)
    · simp only [if_pos h2]
      exact bWt_ticket_20 ⟨rfl, rfl⟩
    · simp only [if_neg h2]
      refine bWt_ticket_22 (fun h3 => ?_) (fun h3 => ?_)
      · simp only [if_pos h3]
        refine bWt_ticket_39 ((((((hs.2 h1)).2 h2)).1 h3)) ?_
        exact bWt_ticket_48 ⟨rfl, rfl⟩
      · simp only [if_neg h3]
        refine bWt_ticket_27 (eWh_trait ((((((hs.2 h1)).2 h2)).2 h3))) ?_
        refine bWt_ticket_36 ?_
        exact bWt_ticket_48 ⟨rfl, rfl⟩

def fWt_prize (a1 : Int32) (a2 : Int32) (M : pm_M) : Int32 := (if (fWh_hasPrize 0 a1 M) = 0 then (-1) else (if (fWt_within a2 0 1 M) = 0 then (-1) else (if a2 = 0 then (M.1 8 0 (Int32.toNatClampNeg a1)) else (M.1 9 0 (Int32.toNatClampNeg a1)))))
def sWt_prize (a1 : Int32) (a2 : Int32) (M : pm_M) : Prop := ((((fWh_hasPrize 0 a1 M) = 0 → True) ∧ (¬ ((fWh_hasPrize 0 a1 M) = 0) → ((((fWt_within a2 0 1 M) = 0 → True) ∧ (¬ ((fWt_within a2 0 1 M) = 0) → ((a2 = 0 → (vp_in a1 4)) ∧ (¬ (a2 = 0) → (vp_in a1 4)))))))))
theorem eWt_prize {a1 : Int32} {a2 : Int32} {M : pm_M} (hs : sWt_prize a1 a2 M) : pm_Ev mWt_prize [pm_r 0 0, pm_i a1, pm_i a2] M (some (pm_i (fWt_prize a1 a2 M))) M := by
  refine pm_Sem_of (ls := [some (pm_r 0 0), some (pm_i a1), some (pm_i a2)]) ok_mWt_prize (by decide +kernel) rfl (by decide) (Nat.le_of_ble_eq_true rfl) rfl ?_
  unfold fWt_prize
  unfold sWt_prize at hs
  refine bWt_prize_0 (eWh_hasPrize) ?_
  refine bWt_prize_8 (fun h1 => ?_) (fun h1 => ?_)
  · simp only [if_pos h1]
    exact bWt_prize_20 ⟨rfl, rfl⟩
  · simp only [if_neg h1]
    refine bWt_prize_11 (eWt_within) ?_
    refine bWt_prize_17 (fun h2 => ?_) (fun h2 => ?_)
    · simp only [if_pos h2]
      exact bWt_prize_20 ⟨rfl, rfl⟩
    · simp only [if_neg h2]
      refine bWt_prize_22 (fun h3 => ?_) (fun h3 => ?_)
      · simp only [if_pos h3]
        refine bWt_prize_26 ((((((hs.2 h1)).2 h2)).1 h3)) ?_
        exact bWt_prize_47 ⟨rfl, rfl⟩
      · simp only [if_neg h3]
        refine bWt_prize_38 ((((((hs.2 h1)).2 h2)).2 h3)) ?_
        exact bWt_prize_47 ⟨rfl, rfl⟩

def fWt_sign (a1 : Int32) (a2 : Int32) (a3 : Int32) (M : pm_M) : Int32 := (if (fWh_hasTicket 0 a1 M) = 0 then (-1) else (if (fWh_takesTrait 0 a2 a3 M) = 0 then (-1) else (if (fWh_isTicketIn 0 a1 M) = 0 then (-2) else (fWh_trait 0 a1 a2 M))))
def gWt_sign (a1 : Int32) (a2 : Int32) (a3 : Int32) (M : pm_M) : pm_M := (if (fWh_hasTicket 0 a1 M) = 0 then M else (if (fWh_takesTrait 0 a2 a3 M) = 0 then M else (if (fWh_isTicketIn 0 a1 M) = 0 then M else (gWh_setTrait 0 a1 a2 a3 M))))
def sWt_sign (a1 : Int32) (a2 : Int32) (a3 : Int32) (M : pm_M) : Prop := ((((fWh_hasTicket 0 a1 M) = 0 → True) ∧ (¬ ((fWh_hasTicket 0 a1 M) = 0) → ((((fWh_takesTrait 0 a2 a3 M) = 0 → True) ∧ (¬ ((fWh_takesTrait 0 a2 a3 M) = 0) → (sWh_isTicketIn 0 a1 M ∧ ((((fWh_isTicketIn 0 a1 M) = 0 → True) ∧ (¬ ((fWh_isTicketIn 0 a1 M) = 0) → (sWh_trait 0 a1 a2 M ∧ ((sWh_setTrait 0 a1 a2 a3 M)))))))))))))
theorem eWt_sign {a1 : Int32} {a2 : Int32} {a3 : Int32} {M : pm_M} (hs : sWt_sign a1 a2 a3 M) : pm_Ev mWt_sign [pm_r 0 0, pm_i a1, pm_i a2, pm_i a3] M (some (pm_i (fWt_sign a1 a2 a3 M))) (gWt_sign a1 a2 a3 M) := by
  refine pm_Sem_of (ls := [some (pm_r 0 0), some (pm_i a1), some (pm_i a2), some (pm_i a3), none]) ok_mWt_sign (by decide +kernel) rfl (by decide) (Nat.le_of_ble_eq_true rfl) rfl ?_
  unfold fWt_sign gWt_sign
  unfold sWt_sign at hs
  refine bWt_sign_0 (eWh_hasTicket) ?_
  refine bWt_sign_8 (fun h1 => ?_) (fun h1 => ?_)
  · simp only [if_pos h1]
    exact bWt_sign_23 ⟨rfl, rfl⟩
  · simp only [if_neg h1]
    refine bWt_sign_11 (eWh_takesTrait) ?_
    refine bWt_sign_20 (fun h2 => ?_) (fun h2 => ?_)
    · simp only [if_pos h2]
      exact bWt_sign_23 ⟨rfl, rfl⟩
    · simp only [if_neg h2]
      refine bWt_sign_25 (eWh_isTicketIn (((((hs.2 h1)).2 h2)).1)) ?_
      refine bWt_sign_33 (fun h3 => ?_) (fun h3 => ?_)
      · simp only [if_pos h3]
        exact bWt_sign_36 ⟨rfl, rfl⟩
      · simp only [if_neg h3]
        refine bWt_sign_39 (eWh_trait ((((((((hs.2 h1)).2 h2)).2).2 h3)).1)) ?_
        refine bWt_sign_48 (eWh_setTrait ((((((((hs.2 h1)).2 h2)).2).2 h3)).2)) ?_
        exact bWt_sign_60 ⟨rfl, rfl⟩

def fWt_fill (a1 : Int32) (a2 : Int32) (M : pm_M) : Int32 := (if (fWh_hasPerson 0 a1 M) = 0 then (-1) else (if (fWt_within a2 0 99 M) = 0 then (-1) else (10000 + (M.1 5 0 (Int32.toNatClampNeg a1)))))
def gWt_fill (a1 : Int32) (a2 : Int32) (M : pm_M) : pm_M := (if (fWh_hasPerson 0 a1 M) = 0 then M else (if (fWt_within a2 0 99 M) = 0 then M else (pm_set M 5 0 (upd (M.1 5 0) (Int32.toNatClampNeg a1) a2))))
def sWt_fill (a1 : Int32) (a2 : Int32) (M : pm_M) : Prop := ((((fWh_hasPerson 0 a1 M) = 0 → True) ∧ (¬ ((fWh_hasPerson 0 a1 M) = 0) → ((((fWt_within a2 0 99 M) = 0 → True) ∧ (¬ ((fWt_within a2 0 99 M) = 0) → (vp_in a1 4) ∧ (vp_in a1 4)))))))
theorem eWt_fill {a1 : Int32} {a2 : Int32} {M : pm_M} (hs : sWt_fill a1 a2 M) : pm_Ev mWt_fill [pm_r 0 0, pm_i a1, pm_i a2] M (some (pm_i (fWt_fill a1 a2 M))) (gWt_fill a1 a2 M) := by
  refine pm_Sem_of (ls := [some (pm_r 0 0), some (pm_i a1), some (pm_i a2), none]) ok_mWt_fill (by decide +kernel) rfl (by decide) (Nat.le_of_ble_eq_true rfl) rfl ?_
  unfold fWt_fill gWt_fill
  unfold sWt_fill at hs
  refine bWt_fill_0 (eWh_hasPerson) ?_
  refine bWt_fill_8 (fun h1 => ?_) (fun h1 => ?_)
  · simp only [if_pos h1]
    exact bWt_fill_21 ⟨rfl, rfl⟩
  · simp only [if_neg h1]
    refine bWt_fill_11 (eWt_within) ?_
    refine bWt_fill_18 (fun h2 => ?_) (fun h2 => ?_)
    · simp only [if_pos h2]
      exact bWt_fill_21 ⟨rfl, rfl⟩
    · simp only [if_neg h2]
      exact bWt_fill_23 (((((hs.2 h1)).2 h2)).1) (((((hs.2 h1)).2 h2)).2) ⟨rfl, rfl⟩

def fWt_promise (a1 : Int32) (a2 : Int32) (M : pm_M) : Int32 := (if (fWh_hasPrize 0 a1 M) = 0 then (-1) else (if (fWt_within a2 0 99 M) = 0 then (-1) else (if (fWh_isPrizeIn 0 a1 M) = 0 then (-2) else (M.1 8 0 (Int32.toNatClampNeg a1)))))
def gWt_promise (a1 : Int32) (a2 : Int32) (M : pm_M) : pm_M := (if (fWh_hasPrize 0 a1 M) = 0 then M else (if (fWt_within a2 0 99 M) = 0 then M else (if (fWh_isPrizeIn 0 a1 M) = 0 then M else (pm_set M 8 0 (upd (M.1 8 0) (Int32.toNatClampNeg a1) a2)))))
def sWt_promise (a1 : Int32) (a2 : Int32) (M : pm_M) : Prop := ((((fWh_hasPrize 0 a1 M) = 0 → True) ∧ (¬ ((fWh_hasPrize 0 a1 M) = 0) → ((((fWt_within a2 0 99 M) = 0 → True) ∧ (¬ ((fWt_within a2 0 99 M) = 0) → (sWh_isPrizeIn 0 a1 M ∧ ((((fWh_isPrizeIn 0 a1 M) = 0 → True) ∧ (¬ ((fWh_isPrizeIn 0 a1 M) = 0) → (vp_in a1 4) ∧ (vp_in a1 4)))))))))))
theorem eWt_promise {a1 : Int32} {a2 : Int32} {M : pm_M} (hs : sWt_promise a1 a2 M) : pm_Ev mWt_promise [pm_r 0 0, pm_i a1, pm_i a2] M (some (pm_i (fWt_promise a1 a2 M))) (gWt_promise a1 a2 M) := by
  refine pm_Sem_of (ls := [some (pm_r 0 0), some (pm_i a1), some (pm_i a2), none]) ok_mWt_promise (by decide +kernel) rfl (by decide) (Nat.le_of_ble_eq_true rfl) rfl ?_
  unfold fWt_promise gWt_promise
  unfold sWt_promise at hs
  refine bWt_promise_0 (eWh_hasPrize) ?_
  refine bWt_promise_8 (fun h1 => ?_) (fun h1 => ?_)
  · simp only [if_pos h1]
    exact bWt_promise_21 ⟨rfl, rfl⟩
  · simp only [if_neg h1]
    refine bWt_promise_11 (eWt_within) ?_
    refine bWt_promise_18 (fun h2 => ?_) (fun h2 => ?_)
    · simp only [if_pos h2]
      exact bWt_promise_21 ⟨rfl, rfl⟩
    · simp only [if_neg h2]
      refine bWt_promise_23 (eWh_isPrizeIn (((((hs.2 h1)).2 h2)).1)) ?_
      refine bWt_promise_31 (fun h3 => ?_) (fun h3 => ?_)
      · simp only [if_pos h3]
        exact bWt_promise_34 ⟨rfl, rfl⟩
      · simp only [if_neg h3]
        exact bWt_promise_37 ((((((((hs.2 h1)).2 h2)).2).2 h3)).1) ((((((((hs.2 h1)).2 h2)).2).2 h3)).2) ⟨rfl, rfl⟩

def fWt_isPart (a0 : Int32) (M : pm_M) : Int32 := (fWt_within a0 0 1 M)
theorem zWt_isPart (a0 : Int32) (M : pm_M) : narrow .boolean (.int (fWt_isPart a0 M)) = .int (fWt_isPart a0 M) := by
  unfold fWt_isPart
  repeat' split
  all_goals first | rfl | exact zWt_within a0 0 1 M | skip
theorem eWt_isPart {a0 : Int32} {M : pm_M}  : pm_Ev mWt_isPart [pm_i a0] M (some (pm_i (fWt_isPart a0 M))) M := by
  refine pm_Sem_of (ls := [some (pm_i a0)]) ok_mWt_isPart (by decide +kernel) rfl (by decide) (Nat.le_of_ble_eq_true rfl) rfl ?_
  unfold fWt_isPart
  refine bWt_isPart_0 (eWt_within) ?_
  exact bWt_isPart_6 (zWt_within a0 0 1 M) ⟨rfl, rfl⟩

def fRe_meanParts  (M : pm_M) : Int32 := (if (M.1 12 0 0) = 0 then 1 else (2 * (M.1 12 0 0)))
theorem eRe_meanParts  {M : pm_M}  : pm_Ev mRe_meanParts [pm_r 12 0] M (some (pm_i (fRe_meanParts  M))) M := by
  refine pm_Sem_of (ls := [some (pm_r 12 0)]) ok_mRe_meanParts (by decide +kernel) rfl (by decide) (Nat.le_of_ble_eq_true rfl) rfl ?_
  unfold fRe_meanParts
  refine bRe_meanParts_0 (fun h1 => ?_) (fun h1 => ?_)
  · simp only [if_pos h1]
    refine bRe_meanParts_7 ?_
    exact bRe_meanParts_17 ⟨rfl, rfl⟩
  · simp only [if_neg h1]
    refine bRe_meanParts_11 ?_
    exact bRe_meanParts_17 ⟨rfl, rfl⟩

def fWt_isEnd (a0 : Int32) (M : pm_M) : Int32 := (fWt_within a0 (-999) 999 M)
theorem zWt_isEnd (a0 : Int32) (M : pm_M) : narrow .boolean (.int (fWt_isEnd a0 M)) = .int (fWt_isEnd a0 M) := by
  unfold fWt_isEnd
  repeat' split
  all_goals first | rfl | exact zWt_within a0 (-999) 999 M | skip
theorem eWt_isEnd {a0 : Int32} {M : pm_M}  : pm_Ev mWt_isEnd [pm_i a0] M (some (pm_i (fWt_isEnd a0 M))) M := by
  refine pm_Sem_of (ls := [some (pm_i a0)]) ok_mWt_isEnd (by decide +kernel) rfl (by decide) (Nat.le_of_ble_eq_true rfl) rfl ?_
  unfold fWt_isEnd
  refine bWt_isEnd_0 (eWt_within) ?_
  exact bWt_isEnd_10 (zWt_within a0 (-999) 999 M) ⟨rfl, rfl⟩

def fRe_gain (a1 : Int32) (a2 : Int32) (a3 : Int32) (M : pm_M) : Int32 := ((M.1 17 0 (Int32.toNatClampNeg ((24 * a1) + a2))) + (M.1 18 0 (Int32.toNatClampNeg ((24 * a1) + a3))))
def sRe_gain (a1 : Int32) (a2 : Int32) (a3 : Int32) (M : pm_M) : Prop := (vp_in ((24 * a1) + a2) 96) ∧ (vp_in ((24 * a1) + a3) 96)
theorem eRe_gain {a1 : Int32} {a2 : Int32} {a3 : Int32} {M : pm_M} (hs : sRe_gain a1 a2 a3 M) : pm_Ev mRe_gain [pm_r 12 0, pm_i a1, pm_i a2, pm_i a3] M (some (pm_i (fRe_gain a1 a2 a3 M))) M := by
  refine pm_Sem_of (ls := [some (pm_r 12 0), some (pm_i a1), some (pm_i a2), some (pm_i a3)]) ok_mRe_gain (by decide +kernel) rfl (by decide) (Nat.le_of_ble_eq_true rfl) rfl ?_
  unfold fRe_gain
  unfold sRe_gain at hs
  exact bRe_gain_0 (hs.1) (hs.2) ⟨rfl, rfl⟩

def fRe_allWays  (M : pm_M) : Int32 := ((M.1 12 0 1) * (M.1 12 0 1))
theorem eRe_allWays  {M : pm_M}  : pm_Ev mRe_allWays [pm_r 12 0] M (some (pm_i (fRe_allWays  M))) M := by
  refine pm_Sem_of (ls := [some (pm_r 12 0)]) ok_mRe_allWays (by decide +kernel) rfl (by decide) (Nat.le_of_ble_eq_true rfl) rfl ?_
  unfold fRe_allWays
  exact bRe_allWays_0 ⟨rfl, rfl⟩

def fWh_noteSeen (k : Nat) (a1 : Int32) (a2 : Int32) (M : pm_M) : Int32 := (if (M.1 4 k 2) < 6 then 1 else 0)
def gWh_noteSeen (k : Nat) (a1 : Int32) (a2 : Int32) (M : pm_M) : pm_M := (if (M.1 4 k 2) < 6 then (pm_set (pm_set (pm_set M 10 k (upd (M.1 10 k) (Int32.toNatClampNeg (M.1 4 k 2)) a1)) 11 k (upd (M.1 11 k) (Int32.toNatClampNeg (M.1 4 k 2)) a2)) 4 k (upd (M.1 4 k) 2 ((M.1 4 k 2) + 1))) else M)
def sWh_noteSeen (k : Nat) (a1 : Int32) (a2 : Int32) (M : pm_M) : Prop := (((M.1 4 k 2) < 6 → (vp_in (M.1 4 k 2) 6) ∧ (vp_in (M.1 4 k 2) 6)) ∧ (¬ ((M.1 4 k 2) < 6) → True))
theorem zWh_noteSeen (k : Nat) (a1 : Int32) (a2 : Int32) (M : pm_M) : narrow .boolean (.int (fWh_noteSeen k a1 a2 M)) = .int (fWh_noteSeen k a1 a2 M) := by
  unfold fWh_noteSeen
  repeat' split
  all_goals first | rfl | skip
theorem eWh_noteSeen {k : Nat} {a1 : Int32} {a2 : Int32} {M : pm_M} (hs : sWh_noteSeen k a1 a2 M) : pm_Ev mWh_noteSeen [pm_r 4 k, pm_i a1, pm_i a2] M (some (pm_i (fWh_noteSeen k a1 a2 M))) (gWh_noteSeen k a1 a2 M) := by
  refine pm_Sem_of (ls := [some (pm_r 4 k), some (pm_i a1), some (pm_i a2)]) ok_mWh_noteSeen (by decide +kernel) rfl (by decide) (Nat.le_of_ble_eq_true rfl) rfl ?_
  unfold fWh_noteSeen gWh_noteSeen
  unfold sWh_noteSeen at hs
  refine bWh_noteSeen_0 (fun h1 => ?_) (fun h1 => ?_)
  · simp only [if_pos h1]
    exact bWh_noteSeen_11 (((hs.1 h1)).1) (((hs.1 h1)).2) rfl ⟨rfl, rfl⟩
  · simp only [if_neg h1]
    exact bWh_noteSeen_9 rfl ⟨rfl, rfl⟩

def fWt_see (a1 : Int32) (a2 : Int32) (M : pm_M) : Int32 := (if (fWh_hasPerson 0 a1 M) = 0 then (-1) else (if (fWt_isEnd a2 M) = 0 then (-1) else (if (fWh_noteSeen 0 a1 a2 M) = 0 then (-3) else ((gWh_noteSeen 0 a1 a2 M).1 4 0 2))))
def gWt_see (a1 : Int32) (a2 : Int32) (M : pm_M) : pm_M := (if (fWh_hasPerson 0 a1 M) = 0 then M else (if (fWt_isEnd a2 M) = 0 then M else (if (fWh_noteSeen 0 a1 a2 M) = 0 then (gWh_noteSeen 0 a1 a2 M) else (gWh_noteSeen 0 a1 a2 M))))
def sWt_see (a1 : Int32) (a2 : Int32) (M : pm_M) : Prop := ((((fWh_hasPerson 0 a1 M) = 0 → True) ∧ (¬ ((fWh_hasPerson 0 a1 M) = 0) → ((((fWt_isEnd a2 M) = 0 → True) ∧ (¬ ((fWt_isEnd a2 M) = 0) → (sWh_noteSeen 0 a1 a2 M)))))))
theorem eWt_see {a1 : Int32} {a2 : Int32} {M : pm_M} (hs : sWt_see a1 a2 M) : pm_Ev mWt_see [pm_r 0 0, pm_i a1, pm_i a2] M (some (pm_i (fWt_see a1 a2 M))) (gWt_see a1 a2 M) := by
  refine pm_Sem_of (ls := [some (pm_r 0 0), some (pm_i a1), some (pm_i a2)]) ok_mWt_see (by decide +kernel) rfl (by decide) (Nat.le_of_ble_eq_true rfl) rfl ?_
  unfold fWt_see gWt_see
  unfold sWt_see at hs
  refine bWt_see_0 (eWh_hasPerson) ?_
  refine bWt_see_8 (fun h1 => ?_) (fun h1 => ?_)
  · simp only [if_pos h1]
    exact bWt_see_18 ⟨rfl, rfl⟩
  · simp only [if_neg h1]
    refine bWt_see_11 (eWt_isEnd) ?_
    refine bWt_see_15 (fun h2 => ?_) (fun h2 => ?_)
    · simp only [if_pos h2]
      exact bWt_see_18 ⟨rfl, rfl⟩
    · simp only [if_neg h2]
      refine bWt_see_20 (eWh_noteSeen ((((hs.2 h1)).2 h2))) ?_
      refine bWt_see_29 (fun h3 => ?_) (fun h3 => ?_)
      · simp only [if_pos h3]
        refine bWt_see_42 ?_
        exact bWt_see_44 ⟨rfl, rfl⟩
      · simp only [if_neg h3]
        refine bWt_see_32 ?_
        exact bWt_see_44 ⟨rfl, rfl⟩

def fWt_forget (a1 : Int32) (M : pm_M) : Int32 := (if (fWt_within a1 0 (M.1 4 0 2) M) = 0 then (-1) else (M.1 4 0 2))
def gWt_forget (a1 : Int32) (M : pm_M) : pm_M := (if (fWt_within a1 0 (M.1 4 0 2) M) = 0 then M else (pm_set M 4 0 (upd (M.1 4 0) 2 a1)))
theorem eWt_forget {a1 : Int32} {M : pm_M}  : pm_Ev mWt_forget [pm_r 0 0, pm_i a1] M (some (pm_i (fWt_forget a1 M))) (gWt_forget a1 M) := by
  refine pm_Sem_of (ls := [some (pm_r 0 0), some (pm_i a1), none]) ok_mWt_forget (by decide +kernel) rfl (by decide) (Nat.le_of_ble_eq_true rfl) rfl ?_
  unfold fWt_forget gWt_forget
  refine bWt_forget_0 (eWt_within) ?_
  refine bWt_forget_12 (fun h1 => ?_) (fun h1 => ?_)
  · simp only [if_pos h1]
    exact bWt_forget_15 ⟨rfl, rfl⟩
  · simp only [if_neg h1]
    exact bWt_forget_17 ⟨rfl, rfl⟩

def fWt_turnSeed (a0 : Int32) (M : pm_M) : Int32 := ((a0 * 1103515245) + 12345)
theorem eWt_turnSeed {a0 : Int32} {M : pm_M}  : pm_Ev mWt_turnSeed [pm_i a0] M (some (pm_i (fWt_turnSeed a0 M))) M := by
  refine pm_Sem_of (ls := [some (pm_i a0)]) ok_mWt_turnSeed (by decide +kernel) rfl (by decide) (Nat.le_of_ble_eq_true rfl) rfl ?_
  unfold fWt_turnSeed
  exact bWt_turnSeed_0 ⟨rfl, rfl⟩

def fWt_seedBits (a0 : Int32) (M : pm_M) : Int32 := (((a0.toUInt32 >>> ((16 : Int32).toUInt32 &&& Int32.toUInt32 31)).toInt32) &&& 32767)
theorem eWt_seedBits {a0 : Int32} {M : pm_M}  : pm_Ev mWt_seedBits [pm_i a0] M (some (pm_i (fWt_seedBits a0 M))) M := by
  refine pm_Sem_of (ls := [some (pm_i a0)]) ok_mWt_seedBits (by decide +kernel) rfl (by decide) (Nat.le_of_ble_eq_true rfl) rfl ?_
  unfold fWt_seedBits
  exact bWt_seedBits_0 ⟨rfl, rfl⟩

def fWt_keep (a1 : Int32) (M : pm_M) : Int32 := (if (fWt_within a1 0 1 M) = 0 then (-1) else (M.1 2 0 (Int32.toNatClampNeg a1)))
def gWt_keep (a1 : Int32) (M : pm_M) : pm_M := (if (fWt_within a1 0 1 M) = 0 then M else (pm_set (gWh_copy (Int32.toNatClampNeg a1 + 2) 0 M) 2 0 (upd ((gWh_copy (Int32.toNatClampNeg a1 + 2) 0 M).1 2 0) (Int32.toNatClampNeg a1) 1)))
def sWt_keep (a1 : Int32) (M : pm_M) : Prop := ((((fWt_within a1 0 1 M) = 0 → True) ∧ (¬ ((fWt_within a1 0 1 M) = 0) → (vp_in a1 2) ∧ (vp_in a1 2) ∧ ((vp_in a1 2)))))
theorem eWt_keep {a1 : Int32} {M : pm_M} (hs : sWt_keep a1 M) : pm_Ev mWt_keep [pm_r 0 0, pm_i a1] M (some (pm_i (fWt_keep a1 M))) (gWt_keep a1 M) := by
  refine pm_Sem_of (ls := [some (pm_r 0 0), some (pm_i a1), none]) ok_mWt_keep (by decide +kernel) rfl (by decide) (Nat.le_of_ble_eq_true rfl) rfl ?_
  unfold fWt_keep gWt_keep
  unfold sWt_keep at hs
  refine bWt_keep_0 (eWt_within) ?_
  refine bWt_keep_6 (fun h1 => ?_) (fun h1 => ?_)
  · simp only [if_pos h1]
    exact bWt_keep_9 ⟨rfl, rfl⟩
  · simp only [if_neg h1]
    refine bWt_keep_11 (((hs.2 h1)).1) ((((hs.2 h1)).2).1) (eWh_copy) ?_
    exact bWt_keep_31 ((((hs.2 h1)).2).2) ⟨rfl, rfl⟩

def fWt_isSheet (a0 : Int32) (M : pm_M) : Int32 := (fWt_within a0 0 3 M)
theorem zWt_isSheet (a0 : Int32) (M : pm_M) : narrow .boolean (.int (fWt_isSheet a0 M)) = .int (fWt_isSheet a0 M) := by
  unfold fWt_isSheet
  repeat' split
  all_goals first | rfl | exact zWt_within a0 0 3 M | skip
theorem eWt_isSheet {a0 : Int32} {M : pm_M}  : pm_Ev mWt_isSheet [pm_i a0] M (some (pm_i (fWt_isSheet a0 M))) M := by
  refine pm_Sem_of (ls := [some (pm_i a0)]) ok_mWt_isSheet (by decide +kernel) rfl (by decide) (Nat.le_of_ble_eq_true rfl) rfl ?_
  unfold fWt_isSheet
  refine bWt_isSheet_0 (eWt_within) ?_
  exact bWt_isSheet_6 (zWt_within a0 0 3 M) ⟨rfl, rfl⟩

def fSh_isLane (a0 : Int32) (M : pm_M) : Int32 := (fWt_within a0 0 2 M)
theorem zSh_isLane (a0 : Int32) (M : pm_M) : narrow .boolean (.int (fSh_isLane a0 M)) = .int (fSh_isLane a0 M) := by
  unfold fSh_isLane
  repeat' split
  all_goals first | rfl | exact zWt_within a0 0 2 M | skip
theorem eSh_isLane {a0 : Int32} {M : pm_M}  : pm_Ev mSh_isLane [pm_i a0] M (some (pm_i (fSh_isLane a0 M))) M := by
  refine pm_Sem_of (ls := [some (pm_i a0)]) ok_mSh_isLane (by decide +kernel) rfl (by decide) (Nat.le_of_ble_eq_true rfl) rfl ?_
  unfold fSh_isLane
  refine bSh_isLane_0 (eWt_within) ?_
  exact bSh_isLane_6 (zWt_within a0 0 2 M) ⟨rfl, rfl⟩

def fSh_faultAt (k : Nat) (a1 : Int32) (M : pm_M) : Int32 := (if (M.1 27 k 0) = (-4) then 1 else (if (fWt_within a1 0 ((M.1 27 k 0) - 1) M) = 0 then 2 else 0))
theorem eSh_faultAt {k : Nat} {a1 : Int32} {M : pm_M}  : pm_Ev mSh_faultAt [pm_r 27 k, pm_i a1] M (some (pm_i (fSh_faultAt k a1 M))) M := by
  refine pm_Sem_of (ls := [some (pm_r 27 k), some (pm_i a1)]) ok_mSh_faultAt (by decide +kernel) rfl (by decide) (Nat.le_of_ble_eq_true rfl) rfl ?_
  unfold fSh_faultAt
  refine bSh_faultAt_0 (fun h1 => ?_) (fun h1 => ?_)
  · simp only [if_pos h1]
    exact bSh_faultAt_9 ⟨rfl, rfl⟩
  · simp only [if_neg h1]
    refine bSh_faultAt_11 (eWt_within) ?_
    refine bSh_faultAt_22 (fun h2 => ?_) (fun h2 => ?_)
    · simp only [if_pos h2]
      refine bSh_faultAt_29 ?_
      exact bSh_faultAt_30 ⟨rfl, rfl⟩
    · simp only [if_neg h2]
      refine bSh_faultAt_25 ?_
      exact bSh_faultAt_30 ⟨rfl, rfl⟩

def gSh_setCell (k : Nat) (a1 : Int32) (a2 : Int32) (M : pm_M) : pm_M := (if (M.1 27 k 1) = 0 then (pm_set M 28 k (upd (M.1 28 k) (Int32.toNatClampNeg a1) ((Int32.toInt8 a2).toInt32))) else (if (M.1 27 k 1) = 1 then (pm_set M 28 k (upd (M.1 28 k) (Int32.toNatClampNeg a1) ((Int32.toInt16 a2).toInt32))) else (pm_set M 28 k (upd (M.1 28 k) (Int32.toNatClampNeg a1) a2))))
def sSh_setCell (k : Nat) (a1 : Int32) (a2 : Int32) (M : pm_M) : Prop := (((M.1 27 k 1) = 0 → ((vp_in a1 40))) ∧ (¬ ((M.1 27 k 1) = 0) → (((M.1 27 k 1) = 1 → ((vp_in a1 40))) ∧ (¬ ((M.1 27 k 1) = 1) → ((vp_in a1 40))))))
theorem eSh_setCell {k : Nat} {a1 : Int32} {a2 : Int32} {M : pm_M} (hs : sSh_setCell k a1 a2 M) : pm_Ev mSh_setCell [pm_r 27 k, pm_i a1, pm_i a2] M none (gSh_setCell k a1 a2 M) := by
  refine pm_Sem_of (ls := [some (pm_r 27 k), some (pm_i a1), some (pm_i a2)]) ok_mSh_setCell (by decide +kernel) rfl (by decide) (Nat.le_of_ble_eq_true rfl) rfl ?_
  unfold gSh_setCell
  unfold sSh_setCell at hs
  refine bSh_setCell_0 (fun h1 => ?_) (fun h1 => ?_)
  · simp only [if_pos h1]
    refine bSh_setCell_12 ?_
    exact bSh_setCell_31 ((hs.1 h1)) ⟨rfl, rfl⟩
  · simp only [if_neg h1]
    refine bSh_setCell_17 (fun h2 => ?_) (fun h2 => ?_)
    · simp only [if_pos h2]
      refine bSh_setCell_25 ?_
      exact bSh_setCell_31 ((((hs.2 h1)).1 h2)) ⟨rfl, rfl⟩
    · simp only [if_neg h2]
      refine bSh_setCell_30 ?_
      exact bSh_setCell_31 ((((hs.2 h1)).2 h2)) ⟨rfl, rfl⟩

def fWt_lay (a1 : Int32) (a2 : Int32) (a3 : Int32) (M : pm_M) : Int32 := (if (fWt_isSheet a1 M) = 0 then (-1) else (if (fSh_faultAt (Int32.toNatClampNeg a1) a2 M) = 0 then 1 else ((-10) - (fSh_faultAt (Int32.toNatClampNeg a1) a2 M))))
def gWt_lay (a1 : Int32) (a2 : Int32) (a3 : Int32) (M : pm_M) : pm_M := (if (fWt_isSheet a1 M) = 0 then M else (if (fSh_faultAt (Int32.toNatClampNeg a1) a2 M) = 0 then (gSh_setCell (Int32.toNatClampNeg a1) a2 a3 M) else M))
def sWt_lay (a1 : Int32) (a2 : Int32) (a3 : Int32) (M : pm_M) : Prop := ((((fWt_isSheet a1 M) = 0 → True) ∧ (¬ ((fWt_isSheet a1 M) = 0) → (vp_in a1 4) ∧ ((((fSh_faultAt (Int32.toNatClampNeg a1) a2 M) = 0 → (vp_in a1 4) ∧ (sSh_setCell (Int32.toNatClampNeg a1) a2 a3 M)) ∧ (¬ ((fSh_faultAt (Int32.toNatClampNeg a1) a2 M) = 0) → True))))))
theorem eWt_lay {a1 : Int32} {a2 : Int32} {a3 : Int32} {M : pm_M} (hs : sWt_lay a1 a2 a3 M) : pm_Ev mWt_lay [pm_r 0 0, pm_i a1, pm_i a2, pm_i a3] M (some (pm_i (fWt_lay a1 a2 a3 M))) (gWt_lay a1 a2 a3 M) := by
  refine pm_Sem_of (ls := [some (pm_r 0 0), some (pm_i a1), some (pm_i a2), some (pm_i a3), none]) ok_mWt_lay (by decide +kernel) rfl (by decide) (Nat.le_of_ble_eq_true rfl) rfl ?_
  unfold fWt_lay gWt_lay
  unfold sWt_lay at hs
  refine bWt_lay_0 (eWt_isSheet) ?_
  refine bWt_lay_4 (fun h1 => ?_) (fun h1 => ?_)
  · simp only [if_pos h1]
    exact bWt_lay_7 ⟨rfl, rfl⟩
  · simp only [if_neg h1]
    refine bWt_lay_9 (((hs.2 h1)).1) (eSh_faultAt) ?_
    refine bWt_lay_19 (fun h2 => ?_) (fun h2 => ?_)
    · simp only [if_pos h2]
      refine bWt_lay_32 ((((((hs.2 h1)).2).1 h2)).1) (eSh_setCell ((((((hs.2 h1)).2).1 h2)).2)) ?_
      exact bWt_lay_43 ⟨rfl, rfl⟩
    · simp only [if_neg h2]
      exact bWt_lay_26 ⟨rfl, rfl⟩

def fSh_faultAtPair_19 (k : Nat) (a1 : Int32) (a2 : Int32) (M : pm_M) : Int32 := (if (fSh_faultAt k a2 M) = 0 then (fSh_faultAt k (a2 + 1) M) else (fSh_faultAt k a2 M))
theorem qSh_faultAtPair_19 {k : Nat} {a1 : Int32} {a2 : Int32} {M : pm_M}  : pm_G mSh_faultAtPair 19 [some (pm_r 27 k), some (pm_i a1), some (pm_i a2), none] [] M (pm_D (some (pm_i (fSh_faultAtPair_19 k a1 a2 M))) M) := by
  unfold fSh_faultAtPair_19
  refine bSh_faultAtPair_19 (eSh_faultAt) ?_
  refine bSh_faultAtPair_24 (fun h1 => ?_) (fun h1 => ?_)
  · simp only [if_pos h1]
    refine bSh_faultAtPair_33 (eSh_faultAt) ?_
    exact bSh_faultAtPair_40 ⟨rfl, rfl⟩
  · simp only [if_neg h1]
    refine bSh_faultAtPair_29 ?_
    exact bSh_faultAtPair_40 ⟨rfl, rfl⟩

def fSh_faultAtPair (k : Nat) (a1 : Int32) (a2 : Int32) (M : pm_M) : Int32 := (if (M.1 27 k 0) = (-4) then fSh_faultAtPair_19 k a1 a2 M else (if a1 = (M.1 27 k 1) then fSh_faultAtPair_19 k a1 a2 M else 3))
theorem eSh_faultAtPair {k : Nat} {a1 : Int32} {a2 : Int32} {M : pm_M}  : pm_Ev mSh_faultAtPair [pm_r 27 k, pm_i a1, pm_i a2] M (some (pm_i (fSh_faultAtPair k a1 a2 M))) M := by
  refine pm_Sem_of (ls := [some (pm_r 27 k), some (pm_i a1), some (pm_i a2), none]) ok_mSh_faultAtPair (by decide +kernel) rfl (by decide) (Nat.le_of_ble_eq_true rfl) rfl ?_
  unfold fSh_faultAtPair
  refine bSh_faultAtPair_0 (fun h1 => ?_) (fun h1 => ?_)
  · simp only [if_pos h1]
    exact qSh_faultAtPair_19
  · simp only [if_neg h1]
    refine bSh_faultAtPair_9 (fun h2 => ?_) (fun h2 => ?_)
    · simp only [if_pos h2]
      exact qSh_faultAtPair_19
    · simp only [if_neg h2]
      exact bSh_faultAtPair_17 ⟨rfl, rfl⟩

def fWt_torn  (M : pm_M) : Int32 := (M.1 0 0 8)
theorem eWt_torn  {M : pm_M}  : pm_Ev mWt_torn [pm_r 0 0] M (some (pm_i (fWt_torn  M))) M := by
  refine pm_Sem_of (ls := [some (pm_r 0 0)]) ok_mWt_torn (by decide +kernel) rfl (by decide) (Nat.le_of_ble_eq_true rfl) rfl ?_
  unfold fWt_torn
  exact bWt_torn_0 ⟨rfl, rfl⟩

