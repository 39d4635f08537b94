/-! firstDraft -/
def fd (j : Nat) : Int32 := if (28 ≤ j ∧ j < 32) ∨ (8 ≤ j ∧ j < 24 ∧ (j - 8) % 5 = 0) then -4 else 0
def fdT (T j : Nat) : Int32 := if (28 ≤ j ∧ j < 28 + T) ∨ (8 ≤ j ∧ j < 8 + 5 * T ∧ (j - 8) % 5 = 0) then -4 else 0
theorem m_firstDraft (M : pm_M) : ∃ M', pm_Ev mMo_firstDraft [pm_r 29 0] M none M' ∧ (∀ j, j < 45 → M'.1 33 0 j = fd j) ∧ (M'.1 29 0 6 = 0 ∧ M'.1 29 0 7 = 0 ∧ M'.1 29 0 8 = 0 ∧ M'.1 29 0 9 = 0 ∧ M'.1 29 0 11 = -4) ∧ (∀ t k, t ≠ 29 → t ≠ 33 → M'.1 t k = M.1 t k) ∧ (∀ j, j ≠ 6 → j ≠ 7 → j ≠ 8 → j ≠ 9 → j ≠ 11 → M'.1 29 0 j = M.1 29 0 j) ∧ M'.2 = M.2 := by
  let K : pm_M → Prop := fun M2 => (∀ t k, t ≠ 33 → M2.1 t k = M.1 t k) ∧ M2.2 = M.2
  let Post : pm_M → Prop := fun M' => (∀ j, j < 45 → M'.1 33 0 j = fd j) ∧ (M'.1 29 0 6 = 0 ∧ M'.1 29 0 7 = 0 ∧ M'.1 29 0 8 = 0 ∧ M'.1 29 0 9 = 0 ∧ M'.1 29 0 11 = -4) ∧ (∀ t k, t ≠ 29 → t ≠ 33 → M'.1 t k = M.1 t k) ∧ (∀ j, j ≠ 6 → j ≠ 7 → j ≠ 8 → j ≠ 9 → j ≠ 11 → M'.1 29 0 j = M.1 29 0 j) ∧ M'.2 = M.2
  have ks : ∀ M2 g, K M2 → K (pm_set M2 33 0 g) := fun M2 g h => ⟨fun t k ht => by rw [pm_set_ne _ _ (Ne.symm ht)]; exact h.1 t k ht, h.2⟩
  have loop2 : ∀ M2, K M2 → (∀ j, j < 45 → M2.1 33 0 j = fdT 0 j) → ∃ M', pm_G mMo_firstDraft 23 [some (pm_r 29 0), some (pm_i (nI 0))] [] M2 (pm_D none M') ∧ Post M' := by
    refine pm_upto (N := 4) (P := fun t => ∀ M2, K M2 → (∀ j, j < 45 → M2.1 33 0 j = fdT t j) → ∃ M', pm_G mMo_firstDraft 23 [some (pm_r 29 0), some (pm_i (nI t))] [] M2 (pm_D none M') ∧ Post M') ?_ ?_ 0 (Nat.zero_le _)
    · intro M2 hK h33
      refine ⟨_, bMo_firstDraft_23 (fun _ => bMo_firstDraft_59 ⟨rfl, rfl⟩) (fun q => absurd (show nI 4 ≤ nI 4 from (pm_le4 (by omega) (by omega)).mpr (by omega)) q), ?_⟩
      refine ⟨fun j hj => ?_, ?_, fun t k h9 h33' => ?_, fun j a b c d e => ?_, hK.2⟩
      · simp only [pm_set_ne _ _ (show (29 : Nat) ≠ 33 by decide)]
        rw [h33 j hj]
        unfold fdT fd
        by_cases e3 : (28 ≤ j ∧ j < 32) ∨ (8 ≤ j ∧ j < 24 ∧ (j - 8) % 5 = 0)
        · rw [if_pos e3, if_pos (by omega)]
        · rw [if_neg e3, if_neg (by omega)]
      · simp only [pm_set_at]
        refine ⟨?_, ?_, ?_, ?_, ?_⟩ <;> rfl
      · simp only [pm_set_ne _ _ (Ne.symm h9)]
        exact hK.1 t k h33'
      · simp only [pm_set_at]
        rw [pk_un e, pk_un d, pk_un c, pk_un b, pk_un a, hK.1 29 0 (by decide)]
    · intro t ht ih M2 hK h33
      obtain ⟨M', g1, g2⟩ := ih (pm_set (pm_set M2 33 0 (upd (M2.1 33 0) (8 + 5 * t) (-4))) 33 0 (upd ((pm_set M2 33 0 (upd (M2.1 33 0) (8 + 5 * t) (-4))).1 33 0) (28 + t) (-4))) (ks _ _ (ks _ _ hK)) (fun j hj => by
        rw [pm_set_at, pm_set_at]
        unfold upd
        have h9 := h33 j hj
        unfold fdT at h9 ⊢
        by_cases e1 : j = 28 + t
        · rw [if_pos e1, if_pos (by omega)]
        · rw [if_neg e1]
          by_cases e2 : j = 8 + 5 * t
          · rw [if_pos e2, if_pos (by omega)]
          · rw [if_neg e2, h9]
            by_cases e3 : (28 ≤ j ∧ j < 28 + t) ∨ (8 ≤ j ∧ j < 8 + 5 * t ∧ (j - 8) % 5 = 0)
            · rw [if_pos e3, if_pos (by omega)]
            · rw [if_neg e3, if_neg (by omega)])
      refine ⟨M', bMo_firstDraft_23 (fun q => ?_) (fun _ => bMo_firstDraft_28 (md_v ht).1.2.2.2.2 (md_v ht).2.2.1 ?_), g2⟩
      · have := (pm_le4 (a := 4) (b := t) (by omega) (by omega)).mp q
        omega
      · rw [md_i4 ht, md_iB ht, nI_1]
        exact g1
  have loop1 : ∀ M2, K M2 → (∀ j, j < 0 → M2.1 33 0 j = 0) → ∃ M', pm_G mMo_firstDraft 2 [some (pm_r 29 0), some (pm_i (nI 0))] [] M2 (pm_D none M') ∧ Post M' := by
    refine pm_upto (N := 45) (P := fun i => ∀ M2, K M2 → (∀ j, j < i → M2.1 33 0 j = 0) → ∃ M', pm_G mMo_firstDraft 2 [some (pm_r 29 0), some (pm_i (nI i))] [] M2 (pm_D none M') ∧ Post M') ?_ ?_ 0 (Nat.zero_le _)
    · intro M2 hK h
      obtain ⟨M', g1, g2⟩ := loop2 M2 hK (fun j hj => by rw [h j hj]; unfold fdT; rw [if_neg (by omega)])
      exact ⟨M', bMo_firstDraft_2 (fun _ => bMo_firstDraft_21 g1) (fun q => absurd (show nI 45 ≤ nI 45 from (pm_le4 (by omega) (by omega)).mpr (by omega)) q), g2⟩
    · intro i hi ih M2 hK h
      obtain ⟨M', g1, g2⟩ := ih (pm_set M2 33 0 (upd (M2.1 33 0) i 0)) (ks _ _ hK) (fun j hj => by
        rw [pm_set_at]
        unfold upd
        by_cases e : j = i
        · rw [if_pos e]
        · rw [if_neg e]
          exact h j (by omega))
      refine ⟨M', bMo_firstDraft_2 (fun q => ?_) (fun _ => bMo_firstDraft_8 (pm_vin hi (by omega)) ?_), g2⟩
      · have := (pm_le4 (a := 45) (b := i) (by omega) (by omega)).mp q
        omega
      · rw [pm_cl4 (by omega), nI_1]
        exact g1
  obtain ⟨M', g1, g2⟩ := loop1 M ⟨fun _ _ _ => rfl, rfl⟩ (fun j hj => absurd hj (Nat.not_lt_zero _))
  refine ⟨M', ?_, g2⟩
  exact pm_Sem_of (ls := [some (pm_r 29 0), none]) ok_mMo_firstDraft (by decide +kernel) rfl (by decide) (Nat.le_of_ble_eq_true rfl) rfl (bMo_firstDraft_0 g1)
/-! the reference's constructor, behind the arrays -/
theorem m_rest (M : pm_M) : ∃ M', pm_G mMo_init 114 [some (pm_r 29 0), none] [] M (pm_D none M') ∧ (∀ t k, t ≠ 29 → t ≠ 30 → t ≠ 32 → t ≠ 33 → t ≠ 40 → M'.1 t k = M.1 t k) ∧ (∀ j, j < 4 → M'.1 40 0 j = -4) ∧ (∀ j, j < 45 → M'.1 30 0 j = fd j) ∧ M'.1 29 0 3 = 0 ∧ M'.1 29 0 4 = 0 ∧ (∀ j, j ≠ 3 → j ≠ 4 → j ≠ 6 → j ≠ 7 → j ≠ 8 → j ≠ 9 → j ≠ 11 → M'.1 29 0 j = M.1 29 0 j) ∧ (∀ j, j < 2 → M'.1 32 0 j = 0) := by
  let Post : pm_M → Prop := fun M' => (∀ t k, t ≠ 29 → t ≠ 30 → t ≠ 32 → t ≠ 33 → t ≠ 40 → M'.1 t k = M.1 t k) ∧ (∀ j, j < 4 → M'.1 40 0 j = -4) ∧ (∀ j, j < 45 → M'.1 30 0 j = fd j) ∧ M'.1 29 0 3 = 0 ∧ M'.1 29 0 4 = 0 ∧ (∀ j, j ≠ 3 → j ≠ 4 → j ≠ 6 → j ≠ 7 → j ≠ 8 → j ≠ 9 → j ≠ 11 → M'.1 29 0 j = M.1 29 0 j) ∧ (∀ j, j < 2 → M'.1 32 0 j = 0)
  have loop : ∀ M2, (∀ t k, t ≠ 40 → M2.1 t k = M.1 t k) → (∀ j, j < 0 → M2.1 40 0 j = -4) → ∃ M', pm_G mMo_init 116 [some (pm_r 29 0), some (pm_i (nI 0))] [] M2 (pm_D none M') ∧ Post M' := by
    refine pm_upto (N := 4) (P := fun i => ∀ M2, (∀ t k, t ≠ 40 → M2.1 t k = M.1 t k) → (∀ j, j < i → M2.1 40 0 j = -4) → ∃ M', pm_G mMo_init 116 [some (pm_r 29 0), some (pm_i (nI i))] [] M2 (pm_D none M') ∧ Post M') ?_ ?_ 0 (Nat.zero_le _)
    · intro M2 hK h40
      obtain ⟨M3, k1, k2, k3, k4, k5, k6⟩ := m_firstDraft M2
      refine ⟨gMo_keepDraft M3, ?_, ?_⟩
      · refine pm_G_run 3 (cs := []) (pc' := (if (4 : Int32) ≤ nI 4 then 135 else 121)) (ls' := [some (pm_r 29 0), some (pm_i (nI 4))]) (st' := []) (M' := M2) rfl trivial (pm_G_ite (fun _ => ?_) (fun q => absurd (show nI 4 ≤ nI 4 from (pm_le4 (by omega) (by omega)).mpr (by omega)) q))
        refine pm_G_run 1 (cs := []) (pc' := 136) (ls' := [some (pm_r 29 0), some (pm_i (nI 4))]) (st' := [pm_r 29 0]) (M' := M2) rfl trivial (pm_G_callV (as := []) (t := 29) (k := 0) (st := []) k6_53 rfl rfl rfl rfl (Nat.le_of_ble_eq_true rfl) rfl k1 (fun _ _ hq => ?_))
        obtain ⟨rfl, e9⟩ := hq
        rw [e9]
        refine pm_G_run 1 (cs := []) (pc' := 140) (ls' := [some (pm_r 29 0), some (pm_i (nI 4))]) (st' := [pm_r 29 0]) (M' := M3) rfl trivial (pm_G_callV (as := []) (t := 29) (k := 0) (st := []) k6_56 rfl rfl rfl rfl (Nat.le_of_ble_eq_true rfl) rfl (eMo_keepDraft ⟨pm_vin (a := 0) (by decide) (by decide), pm_vin (a := 1) (by decide) (by decide)⟩) (fun _ _ hq => ?_))
        obtain ⟨rfl, e9⟩ := hq
        rw [e9]
        exact pm_G_ret (i := .return_) rfl ⟨rfl, rfl, rfl⟩ ⟨rfl, rfl⟩
      · have kd : ∀ t k, t ≠ 29 → t ≠ 30 → t ≠ 32 → (gMo_keepDraft M3).1 t k = M3.1 t k := by
          intro t k a b c
          unfold gMo_keepDraft
          simp only [pm_set_ne _ _ (Ne.symm a), pm_set_ne _ _ (Ne.symm b), pm_set_ne _ _ (Ne.symm c)]
        have r29 : (gMo_keepDraft M3).1 29 0 = upd (upd (M3.1 29 0) 3 (M3.1 29 0 6)) 4 (M3.1 29 0 7) := by
          unfold gMo_keepDraft
          simp only [pm_set_ne _ _ (show (32 : Nat) ≠ 29 by decide), pm_set_at]
          rfl
        refine ⟨fun t k a b c d e => ?_, fun j hj => ?_, fun j hj => ?_, ?_, ?_, fun j a b c d e f g => ?_, fun j hj => ?_⟩
        · rw [kd t k a b c, k4 t k a d, hK t k e]
        · rw [kd 40 0 (by decide) (by decide) (by decide), k4 40 0 (by decide) (by decide)]
          exact h40 j hj
        · unfold gMo_keepDraft
          simp only [pm_set_ne _ _ (show (32 : Nat) ≠ 30 by decide), pm_set_ne _ _ (show (29 : Nat) ≠ 30 by decide), pm_set_at]
          rw [if_pos hj]
          exact k2 j hj
        · rw [r29, pk_un (by decide), pk_us]
          exact k3.1
        · rw [r29, pk_us]
          exact k3.2.1
        · rw [r29, pk_un b, pk_un a, k5 j c d e f g, hK 29 0 (by decide)]
        · unfold gMo_keepDraft
          simp only [pm_set_at]
          have hj' : j = 0 ∨ j = 1 := by omega
          rcases hj' with rfl | rfl <;> rfl
    · intro i hi ih M2 hK h40
      obtain ⟨M', g1, g2⟩ := ih (pm_set M2 40 0 (upd (M2.1 40 0) i (-4))) (fun t k ht => by rw [pm_set_ne _ _ (Ne.symm ht)]; exact hK t k ht) (fun j hj => by
        rw [pm_set_at]
        unfold upd
        by_cases e : j = i
        · rw [if_pos e]
        · rw [if_neg e]
          exact h40 j (by omega))
      refine ⟨M', ?_, g2⟩
      refine pm_G_run 3 (cs := []) (pc' := (if (4 : Int32) ≤ nI i then 135 else 121)) (ls' := [some (pm_r 29 0), some (pm_i (nI i))]) (st' := []) (M' := M2) rfl trivial (pm_G_ite (fun q => ?_) (fun _ => ?_))
      · have := (pm_le4 (a := 4) (b := i) (by omega) (by omega)).mp q
        omega
      · refine pm_G_run 7 (cs := [vp_in (nI i) 4]) (pc' := 116) (ls' := [some (pm_r 29 0), some (pm_i (nI i + 1))]) (st' := []) (M' := pm_set M2 40 0 (upd (M2.1 40 0) (nI i).toNatClampNeg (-4))) rfl ⟨pm_vin hi (by omega), trivial⟩ ?_
        rw [pm_cl4 (by omega), nI_1]
        exact g1
  obtain ⟨M', g1, g2⟩ := loop M (fun _ _ _ => rfl) (fun j hj => absurd hj (Nat.not_lt_zero _))
  exact ⟨M', pm_G_run 2 (cs := []) (pc' := 116) (ls' := [some (pm_r 29 0), some (pm_i 0)]) (st' := []) (M' := M) rfl trivial g1, g2⟩
