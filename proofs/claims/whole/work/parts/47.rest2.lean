theorem pm_acc_eq (b : Int32) (g : Nat → Int32) : ∀ n, pm_acc b g n = b + pm_sumI g n
  | 0 => by simp [pm_acc, pm_sumI]
  | n + 1 => by rw [pm_acc, pm_sumI, pm_acc_eq b g n, Int32.add_assoc]
theorem re_ix {i j : Nat} (hi : i < 4) (hj : j < 4) : Int32.toNatClampNeg ((4 * nI i) + nI j) = 4 * i + j ∧ vp_in ((4 * nI i) + nI j) 16 := by
  have : ∀ i : Fin 4, ∀ j : Fin 4, Int32.toNatClampNeg ((4 * nI i.val) + nI j.val) = 4 * i.val + j.val ∧ vp_in ((4 * nI i.val) + nI j.val) 16 := by
    unfold vp_in
    decide +kernel
  exact this ⟨i, hi⟩ ⟨j, hj⟩
theorem re_L_lt {k : Nat} {M : pm_M} {T a : Nat} (hT : M.1 4 k 1 = nI T) (h4 : T ≤ 4) (ha : a < (re_L k M).length) : (re_L k M).getD a 0 < T := by
  have h1 : (re_L k M).getD a 0 ∈ re_L k M := by
    rw [List.getD_eq_getElem?_getD, List.getElem?_eq_getElem ha]
    exact List.getElem_mem ha
  unfold re_L md_lst at h1 ⊢
  rw [hT, pm_cl4 (by omega)] at h1 ⊢
  exact List.mem_range.mp (List.mem_filter.mp h1).1
theorem re_P_lt {k : Nat} {M : pm_M} {T a : Nat} (hT : M.1 4 k 1 = nI T) (h4 : T ≤ 4) (ha : a < (re_P k M).length) : (re_P k M).getD a 0 < T := by
  have h1 : (re_P k M).getD a 0 ∈ re_P k M := by
    rw [List.getD_eq_getElem?_getD, List.getElem?_eq_getElem ha]
    exact List.getElem_mem ha
  unfold re_P md_lst at h1 ⊢
  rw [hT, pm_cl4 (by omega)] at h1 ⊢
  exact List.mem_range.mp (List.mem_filter.mp h1).1
theorem re_L_len {k : Nat} {M : pm_M} {T : Nat} (hT : M.1 4 k 1 = nI T) (h4 : T ≤ 4) : (re_L k M).length ≤ 4 := by
  have := md_lst_len (fun t => decide (M.1 7 k t = -4)) T
  unfold re_L
  rw [hT, pm_cl4 (by omega)]
  omega
/-- what a day of the i-th ticket that is left brings person x; what it brings with the j-th prize -/
def re_F (k : Nat) (x : Int32) (M : pm_M) (i : Nat) : Int32 := fWh_feeFor k (nI ((re_L k M).getD i 0)) x M
def re_S (k : Nat) (x : Int32) (M : pm_M) (i j : Nat) : Int32 := fWh_shareFor k (nI ((re_L k M).getD i 0)) (M.1 8 k ((re_P k M).getD j 0)) x M
def gRe_weigh (k1 : Nat) (a2 : Int32) (M : pm_M) : pm_M := pm_set (pm_set (gRe_look k1 M) 15 0 (fun a => if a < (re_L k1 M).length then re_F k1 a2 M a else M.1 15 0 a)) 16 0 (fun q => if q / 4 < (re_L k1 M).length ∧ q % 4 < (re_L k1 M).length then re_S k1 a2 M (q / 4) (q % 4) else M.1 16 0 q)
def sRe_weigh (k1 : Nat) (_a2 : Int32) (M : pm_M) : Prop := pm_small (M.1 4 k1 1) ∧ (re_L k1 M).length = (re_P k1 M).length
theorem look_ne {k1 t k : Nat} {M : pm_M} (h : t ≠ 12 ∧ t ≠ 13 ∧ t ≠ 14) : (gRe_look k1 M).1 t k = M.1 t k := by
  unfold gRe_look re_flo
  rw [pm_set_ne _ _ (Ne.symm h.1), pm_set_ne _ _ (Ne.symm h.2.2), pm_set_ne _ _ (Ne.symm h.2.1)]
theorem look_n {k1 : Nat} {M : pm_M} : (gRe_look k1 M).1 12 0 0 = nI (re_L k1 M).length := by
  unfold gRe_look re_flo
  rw [pm_set_at]
  unfold upd
  rw [if_neg (by decide), if_pos rfl]
theorem look_o {k1 : Nat} {M : pm_M} : (gRe_look k1 M).1 12 0 1 = nI (md_fact (re_L k1 M).length) := by
  unfold gRe_look re_flo
  rw [pm_set_at]
  unfold upd
  rw [if_pos rfl]
theorem look_t {k1 a : Nat} {M : pm_M} (ha : a < (re_L k1 M).length) : (gRe_look k1 M).1 13 0 a = nI ((re_L k1 M).getD a 0) := by
  unfold gRe_look re_flo
  rw [pm_set_ne _ _ (by decide), pm_set_ne _ _ (by decide), pm_set_at]
  unfold md_arr
  rw [if_pos ha]
theorem look_p {k1 a : Nat} {M : pm_M} (ha : a < (re_P k1 M).length) : (gRe_look k1 M).1 14 0 a = nI ((re_P k1 M).getD a 0) := by
  unfold gRe_look re_flo
  rw [pm_set_ne _ _ (by decide), pm_set_at]
  unfold md_arr
  rw [if_pos ha]
theorem fWh_trait_of {k : Nat} {a b : Int32} {M M' : pm_M} (h : M'.1 6 k = M.1 6 k) : fWh_trait k a b M' = fWh_trait k a b M := by
  unfold fWh_trait
  rw [h]
theorem fWh_feeFor_of {k : Nat} {a b : Int32} {M M' : pm_M} (h : M'.1 6 k = M.1 6 k) : fWh_feeFor k a b M' = fWh_feeFor k a b M := by
  unfold fWh_feeFor fWh_feeFor_37 fWh_sharedOut fWh_sharedOut_15
  simp only [fWh_trait_of h]
theorem fWh_shareFor_of {k : Nat} {a b c : Int32} {M M' : pm_M} (h : M'.1 6 k = M.1 6 k) : fWh_shareFor k a b c M' = fWh_shareFor k a b c M := by
  unfold fWh_shareFor fWh_shareFor_16 fWh_sharedOut fWh_sharedOut_15
  simp only [fWh_trait_of h]
/-- the memory while the weighing goes on -/
def re_w (M0 M : pm_M) (f s : Nat → Int32) : pm_M := pm_set (pm_set M0 15 0 f) 16 0 s
set_option maxHeartbeats 1000000 in
theorem eRe_weigh {k1 : Nat} {a2 : Int32} {M : pm_M} (hs : sRe_weigh k1 a2 M) : pm_Ev mRe_weigh [pm_r 12 0, pm_r 4 k1, pm_i a2] M none (gRe_weigh k1 a2 M) := by
  refine pm_Sem_of (ls := [some (pm_r 12 0), some (pm_r 4 k1), some (pm_i a2), none, none]) ok_mRe_weigh (by decide +kernel) rfl (by decide) (Nat.le_of_ble_eq_true rfl) rfl ?_
  obtain ⟨⟨T, h4, hT⟩, hlen⟩ := hs
  refine bRe_weigh_0 (eRe_look ⟨T, h4, hT⟩) (bRe_weigh_5 ?_)
  have hn4 := re_L_len (k := k1) hT h4
  unfold gRe_weigh
  have d15 : ∀ a, (gRe_look k1 M).1 15 0 a = M.1 15 0 a := fun a => by rw [look_ne (by decide)]
  have d16 : ∀ a, (gRe_look k1 M).1 16 0 a = M.1 16 0 a := fun a => by rw [look_ne (by decide)]
  have hFt := fun a (ha : a < (re_L k1 M).length) => re_L_lt hT h4 ha
  have hPt := fun a (ha : a < (re_P k1 M).length) => re_P_lt hT h4 ha
  generalize hM0 : gRe_look k1 M = M0
  have m6 : M0.1 6 k1 = M.1 6 k1 := by rw [← hM0, look_ne (by decide)]
  have m8 : M0.1 8 k1 = M.1 8 k1 := by rw [← hM0, look_ne (by decide)]
  have mn : M0.1 12 0 0 = nI (re_L k1 M).length := by rw [← hM0, look_n]
  have mt : ∀ a, a < (re_L k1 M).length → M0.1 13 0 a = nI ((re_L k1 M).getD a 0) := fun a ha => by rw [← hM0, look_t ha]
  have mp : ∀ a, a < (re_P k1 M).length → M0.1 14 0 a = nI ((re_P k1 M).getD a 0) := fun a ha => by rw [← hM0, look_p ha]
  rw [hM0] at d15 d16
  generalize hn : (re_L k1 M).length = n at hn4 mn mt hFt hlen ⊢
  have rn : ∀ f s, (re_w M0 M f s).1 12 0 0 = nI n := fun f s => by unfold re_w; rw [pm_set_ne _ _ (by decide), pm_set_ne _ _ (by decide), mn]
  have r13 : ∀ f s, (re_w M0 M f s).1 13 0 = M0.1 13 0 := fun f s => by unfold re_w; rw [pm_set_ne _ _ (by decide), pm_set_ne _ _ (by decide)]
  have r14 : ∀ f s, (re_w M0 M f s).1 14 0 = M0.1 14 0 := fun f s => by unfold re_w; rw [pm_set_ne _ _ (by decide), pm_set_ne _ _ (by decide)]
  have r8 : ∀ f s, (re_w M0 M f s).1 8 k1 = M.1 8 k1 := fun f s => by unfold re_w; rw [pm_set_ne _ _ (by decide), pm_set_ne _ _ (by decide), m8]
  have r6 : ∀ f s, (re_w M0 M f s).1 6 k1 = M.1 6 k1 := fun f s => by unfold re_w; rw [pm_set_ne _ _ (by decide), pm_set_ne _ _ (by decide), m6]
  have p15 : ∀ f s i x, pm_set (re_w M0 M f s) 15 0 (upd ((re_w M0 M f s).1 15 0) i x) = re_w M0 M (upd f i x) s := fun f s i x => by
    unfold re_w
    rw [pm_set_ne _ _ (by decide), pm_set_at, pm_set_comm (t := 16) (t' := 15) (by decide), pm_set_set]
  have p16 : ∀ f s i x, pm_set (re_w M0 M f s) 16 0 (upd ((re_w M0 M f s).1 16 0) i x) = re_w M0 M f (upd s i x) := fun f s i x => by
    unfold re_w
    rw [pm_set_at, pm_set_set]
  have key := pm_upto (N := n) (P := fun i => pm_G mRe_weigh 7 [some (pm_r 12 0), some (pm_r 4 k1), some (pm_i a2), some (pm_i (nI i)), none] [] (re_w M0 M (fun a => if a < i then re_F k1 a2 M a else M.1 15 0 a) (fun q => if q / 4 < i ∧ q % 4 < n then re_S k1 a2 M (q / 4) (q % 4) else M.1 16 0 q)) (pm_D none (re_w M0 M (fun a => if a < n then re_F k1 a2 M a else M.1 15 0 a) (fun q => if q / 4 < n ∧ q % 4 < n then re_S k1 a2 M (q / 4) (q % 4) else M.1 16 0 q)))) ?_ ?_ 0 (Nat.zero_le _)
  · have e1 : re_w M0 M (fun a => if a < 0 then re_F k1 a2 M a else M.1 15 0 a) (fun q => if q / 4 < 0 ∧ q % 4 < n then re_S k1 a2 M (q / 4) (q % 4) else M.1 16 0 q) = M0 := by
      unfold re_w
      rw [pm_set_id (M := M0) (t := 15) (k := 0) (fun j => by simp [d15]), pm_set_id (M := M0) (t := 16) (k := 0) (fun j => by simp [d16])]
    rw [e1] at key
    exact key
  · refine bRe_weigh_7 (fun _ => bRe_weigh_90 ⟨rfl, rfl⟩) (fun h => absurd ?_ h)
    rw [rn]
    exact (pm_le4 (by omega) (by omega)).mpr (Nat.le_refl _)
  · intro i hi kk
    refine bRe_weigh_7 (fun h => ?_) (fun _ => ?_)
    · rw [rn] at h
      have := (pm_le4 (by omega) (by omega)).mp h
      omega
    · have hLi := hFt i hi
      refine bRe_weigh_15 (M1 := re_w M0 M (fun a => if a < i then re_F k1 a2 M a else M.1 15 0 a) (fun q => if q / 4 < i ∧ q % 4 < n then re_S k1 a2 M (q / 4) (q % 4) else M.1 16 0 q)) (r := re_F k1 a2 M i) (pm_vin (by omega) (by omega)) ?_ ?_
      · rw [r13, pm_cl4 (show i ≤ 1000 by omega), mt i hi]
        have h9 := eWh_feeFor (k := k1) (a1 := nI ((re_L k1 M).getD i 0)) (a2 := a2) (M := re_w M0 M (fun a => if a < i then re_F k1 a2 M a else M.1 15 0 a) (fun q => if q / 4 < i ∧ q % 4 < n then re_S k1 a2 M (q / 4) (q % 4) else M.1 16 0 q)) (sWh_feeFor_ok (by omega))
        rw [fWh_feeFor_of (r6 _ _)] at h9
        exact h9
      · refine bRe_weigh_31 (pm_vin (by omega) (by omega)) ?_
        rw [pm_cl4 (show i ≤ 1000 by omega), p15]
        have eF : upd (fun a => if a < i then re_F k1 a2 M a else M.1 15 0 a) i (re_F k1 a2 M i) = (fun a => if a < i + 1 then re_F k1 a2 M a else M.1 15 0 a) := pm_upd_step _ _ i
        rw [eF]
        have key2 := pm_upto (N := n) (P := fun j => pm_G mRe_weigh 35 [some (pm_r 12 0), some (pm_r 4 k1), some (pm_i a2), some (pm_i (nI i)), some (pm_i (nI j))] [] (re_w M0 M (fun a => if a < i + 1 then re_F k1 a2 M a else M.1 15 0 a) (fun q => if (q / 4 < i ∧ q % 4 < n) ∨ (q / 4 = i ∧ q % 4 < j) then re_S k1 a2 M (q / 4) (q % 4) else M.1 16 0 q)) (pm_D none (re_w M0 M (fun a => if a < n then re_F k1 a2 M a else M.1 15 0 a) (fun q => if q / 4 < n ∧ q % 4 < n then re_S k1 a2 M (q / 4) (q % 4) else M.1 16 0 q)))) ?_ ?_ 0 (Nat.zero_le _)
        · have e0 : (fun q => if (q / 4 < i ∧ q % 4 < n) ∨ (q / 4 = i ∧ q % 4 < 0) then re_S k1 a2 M (q / 4) (q % 4) else M.1 16 0 q) = (fun q => if q / 4 < i ∧ q % 4 < n then re_S k1 a2 M (q / 4) (q % 4) else M.1 16 0 q) := by
            funext q
            by_cases h : q / 4 < i ∧ q % 4 < n
            · simp [h]
            · rw [if_neg (by omega), if_neg h]
          rw [e0] at key2
          exact key2
        · refine bRe_weigh_35 (fun _ => ?_) (fun h => absurd ?_ h)
          · refine bRe_weigh_84 ?_
            rw [nI_1]
            have e0 : (fun q => if (q / 4 < i ∧ q % 4 < n) ∨ (q / 4 = i ∧ q % 4 < n) then re_S k1 a2 M (q / 4) (q % 4) else M.1 16 0 q) = (fun q => if q / 4 < i + 1 ∧ q % 4 < n then re_S k1 a2 M (q / 4) (q % 4) else M.1 16 0 q) := by
              funext q
              by_cases h : q / 4 < i + 1 ∧ q % 4 < n
              · rw [if_pos (by omega), if_pos h]
              · rw [if_neg (by omega), if_neg h]
            rw [e0]
            exact pm_G_le (ls' := [some (pm_r 12 0), some (pm_r 4 k1), some (pm_i a2), some (pm_i (nI (i + 1))), none]) ⟨Or.inr rfl, Or.inr rfl, Or.inr rfl, Or.inr rfl, Or.inl rfl, trivial⟩ kk
          · rw [rn]
            exact (pm_le4 (by omega) (by omega)).mpr (Nat.le_refl _)
        · intro j hj k2
          have hj' : j < (re_P k1 M).length := by omega
          have hPj := hPt j hj'
          refine bRe_weigh_35 (fun h => ?_) (fun _ => ?_)
          · rw [rn] at h
            have := (pm_le4 (by omega) (by omega)).mp h
            omega
          · generalize hf : (fun a => if a < i + 1 then re_F k1 a2 M a else M.1 15 0 a) = f at k2 ⊢
            generalize hsj : (fun q => if (q / 4 < i ∧ q % 4 < n) ∨ (q / 4 = i ∧ q % 4 < j) then re_S k1 a2 M (q / 4) (q % 4) else M.1 16 0 q) = sj
            refine bRe_weigh_44 (M1 := re_w M0 M f sj) (r := re_S k1 a2 M i j) (pm_vin (by omega) (by omega)) (pm_vin (by omega) (by omega)) ?_ ?_ ?_
            · rw [r14, pm_cl4 (show j ≤ 1000 by omega), mp j hj']
              exact pm_vin (by omega) (by omega)
            · rw [r14, r13, r8, pm_cl4 (show j ≤ 1000 by omega), pm_cl4 (show i ≤ 1000 by omega), mp j hj', mt i hi, pm_cl4 (show (re_P k1 M).getD j 0 ≤ 1000 by omega)]
              have h9 := eWh_shareFor (k := k1) (a1 := nI ((re_L k1 M).getD i 0)) (a2 := M.1 8 k1 ((re_P k1 M).getD j 0)) (a3 := a2) (M := re_w M0 M f sj) (sWh_shareFor_ok (by omega))
              rw [fWh_shareFor_of (r6 _ _)] at h9
              exact h9
            · refine bRe_weigh_77 (re_ix (by omega) (by omega)).2 ?_
              rw [(re_ix (show i < 4 by omega) (show j < 4 by omega)).1, p16, nI_1]
              have e0 : upd sj (4 * i + j) (re_S k1 a2 M i j) = (fun q => if (q / 4 < i ∧ q % 4 < n) ∨ (q / 4 = i ∧ q % 4 < j + 1) then re_S k1 a2 M (q / 4) (q % 4) else M.1 16 0 q) := by
                rw [← hsj]
                funext q
                unfold upd
                dsimp only
                by_cases h2 : q = 4 * i + j
                · subst h2
                  have a1 : (4 * i + j) / 4 = i := by omega
                  have a2 : (4 * i + j) % 4 = j := by omega
                  rw [if_pos rfl, if_pos (by omega), a1, a2]
                · rw [if_neg h2]
                  by_cases h1 : (q / 4 < i ∧ q % 4 < n) ∨ (q / 4 = i ∧ q % 4 < j)
                  · rw [if_pos h1, if_pos (by omega)]
                  · rw [if_neg h1, if_neg (by omega)]
              rw [e0]
              exact k2
