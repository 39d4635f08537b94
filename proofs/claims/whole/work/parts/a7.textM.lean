/-! text: the reference -/
def txM (M M2 : pm_M) : (Nat × Nat) ⊕ (Nat × (Nat → Int32) × Nat × Nat) → Prop
  | .inl (c, a) => pm_Ev mMo_text [pm_r 29 0] M (some (pm_i (-10 - nI a))) M2 ∧ tch [29, 31, 33, 34] M M2 ∧ M2.1 29 0 13 = 0 ∧ M2.1 29 0 18 = nI c ∧ ∀ j, (j < 6 ∨ 20 ≤ j) → M2.1 29 0 j = M.1 29 0 j
  | .inr (l, f', P, T) => pm_Ev mMo_text [pm_r 29 0] M (some (pm_i (nI l))) M2 ∧ tch [29, 30, 31, 32, 33, 34] M M2 ∧ M2.1 29 0 13 = 0 ∧ M2.1 29 0 18 = 0 ∧ M2.1 29 0 3 = nI P ∧ M2.1 29 0 4 = nI T ∧ M2.1 29 0 35 = M.1 29 0 35 ∧ ag (M2.1 30 0) f' ∧ ∀ j, j < 2 → M2.1 32 0 j = 0
theorem keep_at (M : pm_M) : pm_Ev mMo_keepDraft [pm_r 29 0] M none (gMo_keepDraft M) ∧ tch [29, 30, 32] M (gMo_keepDraft M) ∧ (gMo_keepDraft M).1 29 0 = upd (upd (M.1 29 0) 3 (M.1 29 0 6)) 4 (M.1 29 0 7) ∧ (∀ j, j < 45 → (gMo_keepDraft M).1 30 0 j = M.1 33 0 j) ∧ ∀ j, j < 2 → (gMo_keepDraft M).1 32 0 j = 0 := by
  refine ⟨eMo_keepDraft ⟨pm_vin (a := 0) (by decide) (by decide), pm_vin (a := 1) (by decide) (by decide)⟩, ?_, ?_, fun j hj => ?_, fun j hj => ?_⟩
  · unfold gMo_keepDraft
    exact tch_set (tch_set (tch_set (tch_set (tch_set tch_rfl (by decide)) (by decide)) (by decide)) (by decide)) (by decide)
  · unfold gMo_keepDraft
    simp only [pm_set_ne _ _ (show (32 : Nat) ≠ 29 by decide), pm_set_at]
    rfl
  · unfold gMo_keepDraft
    simp only [pm_set_ne _ _ (show (32 : Nat) ≠ 30 by decide), pm_set_ne _ _ (show (29 : Nat) ≠ 30 by decide), pm_set_at]
    rw [if_pos hj]
  · unfold gMo_keepDraft
    simp only [pm_set_at]
    have hj' : j = 0 ∨ j = 1 := by omega
    rcases hj' with rfl | rfl <;> rfl
theorem m_text {M : pm_M} {n : Nat} {b : Nat → Nat} (h : tpm M n b) : ∃ M2, txM M M2 (txO n b) := by
  have hn := h.1
  generalize hM1 : pm_set (pm_set M 29 0 (upd (M.1 29 0) 18 0)) 29 0 (upd ((pm_set M 29 0 (upd (M.1 29 0) 18 0)).1 29 0) 14 0) = M1
  have e1 : M1.1 29 0 = upd (upd (M.1 29 0) 18 0) 14 0 := by rw [← hM1, pm_set_at, pm_set_at]
  have t1 : tch [29, 31, 33, 34] M M1 := by
    rw [← hM1]
    exact tch_set (tch_set tch_rfl (by decide)) (by decide)
  obtain ⟨M2, f1, f2, ⟨f6, f7, f8, f9, f11⟩, f4, f5, _⟩ := m_firstDraft M1
  have g2 : ∀ j, j ≠ 6 → j ≠ 7 → j ≠ 8 → j ≠ 9 → j ≠ 11 → j ≠ 14 → j ≠ 18 → M2.1 29 0 j = M.1 29 0 j := fun j a1 a2 a3 a4 a5 a6 a7 => by rw [f5 j a1 a2 a3 a4 a5, e1, pk_un a6, pk_un a7]
  have t2 : tch [29, 31, 33, 34] M M2 := fun a k ha => by
    rw [f4 a k (fun x => ha (by rw [x]; decide)) (fun x => ha (by rw [x]; decide))]
    exact t1 a k ha
  have tp2 : tpm M2 n b := ⟨hn, by rw [g2 13 (by decide) (by decide) (by decide) (by decide) (by decide) (by decide) (by decide)]; exact h.2.1, fun j hj => by rw [t2 35 0 (by decide)]; exact h.2.2 j hj⟩
  have h14 : M2.1 29 0 14 = nI 0 := by
    rw [f5 14 (by decide) (by decide) (by decide) (by decide) (by decide), e1, pk_us]
    rfl
  have h18 : M2.1 29 0 18 = 0 := by rw [f5 18 (by decide) (by decide) (by decide) (by decide) (by decide), e1, pk_un (by decide), pk_us]
  have mD2 : mD M2 A0 := ⟨f2, ⟨f6, f7, f8, f9, f11⟩, fun j hj => absurd hj (Nat.not_lt_zero _)⟩
  obtain ⟨G, k1, k2, k3⟩ := m_nextS tp2 (Nat.zero_le _) h14 h18
  have t3 : tch [29, 31, 33, 34] M (pm_set M2 29 0 G) := tch_set t2 (by decide)
  obtain ⟨M4, r1, r2, r3⟩ := m_lines 81 0 A0 0 (pm_set M2 29 0 G) (by omega) (by omega) (tpm_set tp2 k2) (by rw [pm_set_at]; exact k3) (mD_kp mD2 k2) aV_0
  rw [pm_set_at] at r2
  have g4 : ∀ j, (j < 6 ∨ j = 10 ∨ j = 12 ∨ j = 13 ∨ 20 ≤ j) → M4.1 29 0 j = M.1 29 0 j := fun j hj => by
    rw [r2 j hj, kq_kp k2 j hj, g2 j (by omega) (by omega) (by omega) (by omega) (by omega) (by omega) (by omega)]
  have t4 : tch [29, 31, 33, 34] M M4 := tch_trans t3 (tch_mono r1 (by decide))
  have start : ∀ {x : Int32} {M' : pm_M}, pm_G mMo_text 20 [some (pm_r 29 0), some (pm_i (nI 0))] [] (pm_set M2 29 0 G) (pm_D (some (pm_i x)) M') → pm_Ev mMo_text [pm_r 29 0] M (some (pm_i x)) M' := by
    intro x M' kk
    refine pm_Sem_of (ls := [some (pm_r 29 0), none]) ok_mMo_text (by decide +kernel) rfl (by decide) (Nat.le_of_ble_eq_true rfl) rfl ?_
    refine bMo_text_0 (M1 := M2) ?_ (bMo_text_16 k1 kk)
    rw [hM1]
    exact f1
  -- the end with a fault
  have bad : ∀ {M5 : pm_M} {l c a : Nat}, rE c a (M5.1 29 0) → pm_G mMo_text 95 [some (pm_r 29 0), some (pm_i (nI l))] [] M5 (pm_D (some (pm_i (-10 - nI a))) (pm_set M5 29 0 (upd (M5.1 29 0) 13 0))) := by
    intro M5 l c a hE
    obtain ⟨z1, z2⟩ := rE_pos hE
    have z3 : (pm_set M5 29 0 (upd (M5.1 29 0) 13 0)).1 29 0 18 = M5.1 29 0 18 := by rw [pm_set_at, pk_un (by decide)]
    refine bMo_text_95 (fun x => absurd x z1) (fun _ => bMo_text_106 (fun x => ?_) (fun _ => bMo_text_118 ⟨?_, rfl⟩))
    · rw [z3] at x
      exact absurd x z2
    · rw [pm_set_at, pk_un (by decide), hE.2.2]
  have badT : ∀ {M5 : pm_M} {c a : Nat}, rE c a (M5.1 29 0) → tch [29, 31, 33, 34] M M5 → (∀ j, (j < 6 ∨ 20 ≤ j) → M5.1 29 0 j = M.1 29 0 j) → tch [29, 31, 33, 34] M (pm_set M5 29 0 (upd (M5.1 29 0) 13 0)) ∧ (pm_set M5 29 0 (upd (M5.1 29 0) 13 0)).1 29 0 13 = 0 ∧ (pm_set M5 29 0 (upd (M5.1 29 0) 13 0)).1 29 0 18 = nI c ∧ ∀ j, (j < 6 ∨ 20 ≤ j) → (pm_set M5 29 0 (upd (M5.1 29 0) 13 0)).1 29 0 j = M.1 29 0 j := by
    intro M5 c a hE t5 g5
    refine ⟨tch_set t5 (by decide), by rw [pm_set_at, pk_us], by rw [pm_set_at, pk_un (by decide)]; exact hE.2.1, fun j hj => ?_⟩
    rw [pm_set_at, pk_un (by omega)]
    exact g5 j hj
  unfold txO
  revert r3
  cases tlO n b 81 0 A0 0 with
  | inl f =>
    obtain ⟨c, a⟩ := f
    intro r3
    obtain ⟨⟨l', r⟩, hE⟩ := r3
    obtain ⟨b1, b2, b3, b4⟩ := badT hE t4 (fun j hj => g4 j (by omega))
    exact ⟨_, start (r _ (bMo_text_44 (fun x => absurd x (rE_pos hE).1) (fun _ => bad hE))), b1, b2, b3, b4⟩
  | inr z =>
    obtain ⟨l, A⟩ := z
    intro r3
    obtain ⟨r, s18, s15, sD, hV⟩ := r3
    have e6 := sD.2.1.1
    have e7 := sD.2.1.2.1
    have e8 := sD.2.1.2.2.1
    have e11 := sD.2.1.2.2.2.2
    have hA := hV.1
    have fl : ∀ c : Nat, 1 ≤ c → c ≤ 8 → rE c n (upd (upd (M4.1 29 0) 18 (nI c)) 19 (M4.1 29 0 15)) := fun c c1 c2 => ⟨⟨c1, c2⟩, by rw [pk_un (by decide), pk_us], by rw [pk_us]; exact s15⟩
    have flG : ∀ c : Nat, ∀ j, (j < 6 ∨ 20 ≤ j) → upd (upd (M4.1 29 0) 18 (nI c)) 19 (M4.1 29 0 15) j = M.1 29 0 j := fun c j hj => by
      rw [pk_un (by omega), pk_un (by omega)]
      exact g4 j (by omega)
    dsimp only
    unfold bhO
    by_cases q6 : okP A
    · rw [if_pos (by simpa using q6)]
      have go7 : ∀ {x : Int32} {M' : pm_M}, pm_G mMo_text 73 [some (pm_r 29 0), some (pm_i (nI l))] [] M4 (pm_D (some (pm_i x)) M') → pm_Ev mMo_text [pm_r 29 0] M (some (pm_i x)) M' := by
        intro x M' kk
        refine start (r _ (bMo_text_44 (fun _ => bMo_text_51 (fun c => ?_) (fun _ => bMo_text_63 (bMo_text_68 (m_needs1 (Or.inl (by decide))) kk))) (fun c => absurd s18 c)))
        rw [e6, e11] at c
        exact absurd c ((hi_ok hV).mpr q6)
      by_cases q7 : A.2.2.1 < A.2.2.2.1
      · rw [if_pos q7]
        obtain ⟨b1, b2, b3, b4⟩ := badT (M5 := pm_set M4 29 0 (upd (upd (M4.1 29 0) 18 (nI 7)) 19 (M4.1 29 0 15))) (c := 7) (a := n) (by rw [pm_set_at]; exact fl 7 (by omega) (by omega)) (tch_set t4 (by decide)) (by rw [pm_set_at]; exact flG 7)
        refine ⟨_, go7 (bMo_text_73 (fun _ => bMo_text_89 (bMo_text_90 (m_needs0 s18) (bad (c := 7) (a := n) ?_))) (fun c => ?_)), b1, b2, b3, b4⟩
        · rw [pm_set_at]
          exact fl 7 (by omega) (by omega)
        · rw [e7, e8] at c
          exact absurd ((pm_lt4 (by omega) (by omega)).mpr q7) c
      · rw [if_neg q7]
        have go8 : ∀ {x : Int32} {M' : pm_M}, pm_G mMo_text 95 [some (pm_r 29 0), some (pm_i (nI l))] [] M4 (pm_D (some (pm_i x)) M') → pm_Ev mMo_text [pm_r 29 0] M (some (pm_i x)) M' := by
          intro x M' kk
          refine go7 (bMo_text_73 (fun c => ?_) (fun _ => bMo_text_85 (bMo_text_90 (m_needs1 (Or.inl (by decide))) kk)))
          rw [e7, e8] at c
          exact absurd ((pm_lt4 (by omega) (by omega)).mp c) q7
        obtain ⟨M5, u1, u2, u3⟩ := m_drawsCome (n := n) sD hV q6 s18 s15
        have t5 : tch [29, 31, 33, 34] M M5 := tch_trans t4 (tch_mono u2 (by decide))
        revert u3
        cases dwO A with
        | inl z =>
          intro u3
          obtain ⟨hE, hk⟩ := u3
          obtain ⟨b1, b2, b3, b4⟩ := badT hE t5 (fun j hj => by rw [hk j (by omega) (by omega) (by omega) (by omega) (by omega) (by omega)]; exact g4 j (by omega))
          refine ⟨_, go8 (bMo_text_95 (fun _ => bMo_text_102 u1 ?_) (fun c => absurd s18 c)), b1, b2, b3, b4⟩
          obtain ⟨z1, z2⟩ := rE_pos hE
          have z3 : (pm_set M5 29 0 (upd (M5.1 29 0) 13 0)).1 29 0 18 = M5.1 29 0 18 := by rw [pm_set_at, pk_un (by decide)]
          refine bMo_text_106 (fun x => ?_) (fun _ => bMo_text_118 ⟨?_, rfl⟩)
          · rw [z3] at x
            exact absurd x z2
          · rw [pm_set_at, pk_un (by decide), hE.2.2]
        | inr z =>
          obtain ⟨d, x, f'⟩ := z
          intro u3
          obtain ⟨v1, v2⟩ := u3
          generalize hM6 : pm_set M5 29 0 (upd (M5.1 29 0) 13 0) = M6
          have e29 : M6.1 29 0 = upd (M4.1 29 0) 13 0 := by rw [← hM6, pm_set_at, v1]
          obtain ⟨w1, w2, w3, w4, w5⟩ := keep_at M6
          have t6 : tch [29, 31, 33, 34] M M6 := by
            rw [← hM6]
            exact tch_set t5 (by decide)
          have u : ∀ j, j ≠ 3 → j ≠ 4 → j ≠ 13 → (gMo_keepDraft M6).1 29 0 j = M4.1 29 0 j := fun j a1 a2 a3 => by rw [w3, pk_un a2, pk_un a1, e29, pk_un a3]
          refine ⟨gMo_keepDraft M6, go8 (bMo_text_95 (fun _ => bMo_text_102 u1 (bMo_text_106 (fun _ => ?_) (fun c => ?_))) (fun c => absurd s18 c)), tch_trans (tch_mono t6 (by decide)) (tch_mono w2 (by decide)), ?_, ?_, ?_, ?_, ?_, fun j hj => ?_, w5⟩
          · rw [hM6]
            exact bMo_text_126 w1 (bMo_text_130 ⟨rfl, rfl⟩)
          · rw [hM6, e29, pk_un (by decide), s18] at c
            exact absurd (by decide) c
          · rw [w3, pk_un (by decide), pk_un (by decide), e29, pk_us]
          · rw [u 18 (by decide) (by decide) (by decide)]
            exact s18
          · rw [w3, pk_un (by decide), pk_us, e29, pk_un (by decide)]
            exact e6
          · rw [w3, pk_us, e29, pk_un (by decide)]
            exact e7
          · rw [u 35 (by decide) (by decide) (by decide)]
            exact g4 35 (by omega)
          · rw [w4 j hj, ← hM6, pm_set_ne _ _ (by decide)]
            exact v2 j hj
    · rw [if_neg (by simpa using q6)]
      obtain ⟨b1, b2, b3, b4⟩ := badT (M5 := pm_set M4 29 0 (upd (upd (M4.1 29 0) 18 (nI 6)) 19 (M4.1 29 0 15))) (c := 6) (a := n) (by rw [pm_set_at]; exact fl 6 (by omega) (by omega)) (tch_set t4 (by decide)) (by rw [pm_set_at]; exact flG 6)
      have z : ¬ (pm_set M4 29 0 (upd (upd (M4.1 29 0) 18 (nI 6)) 19 (M4.1 29 0 15))).1 29 0 18 = 0 := by
        rw [pm_set_at]
        exact (rE_pos (fl 6 (by omega) (by omega))).1
      have hE : rE 6 n ((pm_set M4 29 0 (upd (upd (M4.1 29 0) 18 (nI 6)) 19 (M4.1 29 0 15))).1 29 0) := by
        rw [pm_set_at]
        exact fl 6 (by omega) (by omega)
      refine ⟨_, start (r _ (bMo_text_44 (fun _ => bMo_text_51 (fun _ => bMo_text_67 (bMo_text_68 (m_needs0 s18) (bMo_text_73 (fun _ => bMo_text_89 (bMo_text_90 (m_needs1 (Or.inr z)) (bad hE))) (fun _ => bMo_text_85 (bMo_text_90 (m_needs1 (Or.inr z)) (bad hE)))))) (fun c => ?_)) (fun c => absurd s18 c))), b1, b2, b3, b4⟩
      rw [e6, e11] at c
      exact absurd ((hi_ok hV).mp c) q6
theorem ok_text : OkI mWt_text mMo_text [] := by
  intro M hI
  obtain ⟨⟨P, T, hW⟩, ⟨n, n1, n2, n3, n4⟩, h3, h4, h5⟩ := id hI
  have cb : ∀ i, i < n → (M.1 35 0 i).toNatClampNeg ≤ 127 ∧ M.1 22 0 i = nI (M.1 35 0 i).toNatClampNeg ∧ M.1 35 0 i = nI (M.1 35 0 i).toNatClampNeg := fun i hi => by
    obtain ⟨b, b1, b2, b3⟩ := n4 i hi
    rw [b3, pm_cl4 (by omega)]
    exact ⟨b1, b2, rfl⟩
  have htp : tp M n (fun i => (M.1 35 0 i).toNatClampNeg) := ⟨n1, n2, fun i hi => ⟨(cb i hi).1, (cb i hi).2.1⟩⟩
  obtain ⟨M1, k1⟩ := c_text htp
  have ref : ∀ M1 : pm_M, M1.1 29 0 = M.1 29 0 → M1.1 35 0 = M.1 35 0 → ∃ M2, txM M1 M2 (txO n (fun i => (M.1 35 0 i).toNatClampNeg)) := fun M1 a29 a35 => m_text ⟨n1, by rw [a29]; exact n3, fun i hi => by rw [a35]; exact ⟨(cb i hi).1, (cb i hi).2.2⟩⟩
  revert k1 ref
  cases txO n (fun i => (M.1 35 0 i).toNatClampNeg) with
  | inl f =>
    obtain ⟨c, a⟩ := f
    intro k1 ref
    obtain ⟨e1, e2, e3, e4⟩ := k1
    obtain ⟨M2, u1, u2, u3, u4, u5⟩ := ref M1 (e2 29 0 rfl) (e2 35 0 rfl)
    refine ⟨_, M1, M2, e1, u1, ?_⟩
    have g : ∀ x k, x ∉ [29, 31, 33, 34] → cfx x k = false → M2.1 x k = M.1 x k := fun x k hx hc => by rw [u2 x k hx, e2 x k hc]
    refine ⟨⟨P, T, iW_same hW (g 2 0 (by decide) rfl) (fun x k x4 x11 hk => g x k (by simp; omega) (by unfold cfx; simp; omega)) (g 30 0 (by decide) rfl) (g 32 0 (by decide) rfl) (by rw [u5 3 (by omega), e2 29 0 rfl]) (by rw [u5 4 (by omega), e2 29 0 rfl])⟩, ⟨0, by omega, by rw [u2 21 0 (by decide)]; exact e3, u3, fun i hi => absurd hi (Nat.not_lt_zero _)⟩, by rw [u2 23 0 (by decide), e4, u4], iS_same h4 (fun k => g 27 k (by decide) rfl) (fun k => g 28 k (by decide) rfl) (g 40 0 (by decide) rfl) (g 41 0 (by decide) rfl) (g 42 0 (by decide) rfl), ?_⟩
    rw [g 0 0 (by decide) rfl, u5 35 (by omega), e2 29 0 rfl]
    exact h5
  | inr z =>
    obtain ⟨l, f', P', T'⟩ := z
    intro k1 ref
    obtain ⟨e1, e2, e3, e4, e5, e6, e7⟩ := k1
    obtain ⟨M2, u1, u2, u3, u4, u5, u6, u7, u8, u9⟩ := ref M1 (e2 29 0 rfl (by omega) (by omega)) (e2 35 0 rfl (by omega) (by omega))
    refine ⟨_, M1, M2, e1, u1, ?_⟩
    have g : ∀ x k, x ∉ [29, 30, 31, 32, 33, 34] → cfx x k = false → ¬ (4 ≤ x ∧ x ≤ 11 ∧ k = 0) → x ≠ 2 → M2.1 x k = M.1 x k := fun x k hx hc h9 h2 => by rw [u2 x k hx, e2 x k hc h9 h2]
    refine ⟨⟨P', T', ?_, ag_wv u8 e6, u5, u6, fun k hk => Or.inl ⟨by rw [u2 2 0 (by decide)]; exact e7 k hk, u9 k hk⟩⟩, ⟨0, by omega, by rw [u2 21 0 (by decide)]; exact e3, u3, fun i hi => absurd hi (Nat.not_lt_zero _)⟩, by rw [u2 23 0 (by decide), e4, u4], iS_same h4 (fun k => g 27 k (by decide) rfl (by omega) (by omega)) (fun k => g 28 k (by decide) rfl (by omega) (by omega)) (g 40 0 (by decide) rfl (by omega) (by omega)) (g 41 0 (by decide) rfl (by omega) (by omega)) (g 42 0 (by decide) rfl (by omega) (by omega)), ?_⟩
    · exact cw_ag e6.1 e6.2.1 u8 (cw_same e5 (fun x x4 x11 => u2 x 0 (by simp; omega)))
    · rw [g 0 0 (by decide) rfl (by omega) (by omega), u7, e2 29 0 rfl (by omega) (by omega)]
      exact h5
