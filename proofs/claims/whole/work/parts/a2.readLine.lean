/-! a whole line of the reference -/
def lnM (M' : pm_M) (n : Nat) (b : Nat → Nat) : Option ((Nat × Nat) ⊕ (Nat × tD)) → Prop
  | none => False
  | some (.inl (c, a)) => rE c a (M'.1 29 0)
  | some (.inr (p', A')) => p' ≤ n ∧ rS n b p' (M'.1 29 0) ∧ mD M' A'
theorem room_at {M : pm_M} {A : tD} {w : Nat} (hw : w < 7) (hd : mD M A) (hA : A.2.1 ≤ 4 ∧ A.2.2.1 ≤ 4 ∧ A.2.2.2.1 ≤ 4 ∧ A.2.2.2.2.1 ≤ 4) : fMo_hasRoom (nI w) M = if tTold A w < 4 then 1 else 0 := by
  obtain ⟨d1, ⟨d2, d3, d4, d5, d6⟩, d7⟩ := hd
  have n : ∀ k, k < 7 → (nI w = nI k ↔ w = k) := fun k hk => pm_eq4 (by omega) (by omega)
  have c : ∀ x : Nat, x ≤ 4 → (if (4 : Int32) ≤ nI x then (0 : Int32) else 1) = if x < 4 then 1 else 0 := fun x hx => by
    by_cases q : x < 4
    · rw [if_neg (fun y => by have := (pm_le4 (a := 4) (b := x) (by omega) (by omega)).mp y; omega), if_pos q]
    · rw [if_pos (show (4 : Int32) ≤ nI x from (pm_le4 (a := 4) (b := x) (by omega) (by omega)).mpr (by omega)), if_neg q]
  unfold fMo_hasRoom tTold
  rw [d2, d3, d4, d5, c _ hA.1, c _ hA.2.1, c _ hA.2.2.1, c _ hA.2.2.2]
  by_cases q4 : w = 4
  · rw [if_pos (show nI w = 4 from (n 4 (by omega)).mpr q4), if_pos q4]
  · rw [if_neg (show ¬ nI w = 4 from fun x => q4 ((n 4 (by omega)).mp x)), if_neg q4]
    by_cases q5 : w = 5
    · rw [if_pos (show nI w = 5 from (n 5 (by omega)).mpr q5), if_pos q5]
    · rw [if_neg (show ¬ nI w = 5 from fun x => q5 ((n 5 (by omega)).mp x)), if_neg q5]
      by_cases q6 : w = 6
      · rw [if_pos (show nI w = 6 from (n 6 (by omega)).mpr q6), if_pos q6]
      · rw [if_neg (show ¬ nI w = 6 from fun x => q6 ((n 6 (by omega)).mp x)), if_neg q6]
theorem mD_kp {M : pm_M} {A : tD} {G : Nat → Int32} (hd : mD M A) (hk : kp (M.1 29 0) G) : mD (pm_set M 29 0 G) A := by
  have u : ∀ j, j ≤ 11 → G j = M.1 29 0 j := fun j hj => hk j (by omega) (by omega) (by omega) (by omega) (by omega) (by omega)
  unfold mD
  rw [pm_set_at, u 6 (by omega), u 7 (by omega), u 8 (by omega), u 9 (by omega), u 11 (by omega)]
  exact hd
theorem nm_wrong {n w p : Nat} {b : Nat → Nat} {v : Nat → Nat} (hw : w < 7) (h : tkK n b p = 4) : nmO n b w (tHm w) 0 p v = .inl (1, tkS n b p) := by
  have h1 := (tHm_at (M := (fun _ _ _ => 0, 0)) hw).2.2
  obtain ⟨m, hm⟩ : ∃ m, tHm w = m + 1 := ⟨tHm w - 1, by omega⟩
  have e : tkf n b p 2 = 1 := by unfold tkf; rw [if_pos h]
  rw [hm, nmO, e, if_neg (by decide)]
theorem m_readLine {M : pm_M} {n p : Nat} {b : Nat → Nat} {A : tD} (h : tpm M n b) (hp : p ≤ n) (hS : rS n b p (M.1 29 0)) (hd : mD M A) (hA : A.2.1 ≤ 4 ∧ A.2.2.1 ≤ 4 ∧ A.2.2.2.1 ≤ 4 ∧ A.2.2.2.2.1 ≤ 4) (q0 : ¬ tkK n b p = 0) (q4 : ¬ tkK n b p = 4) : ∃ M', pm_Ev mMo_readLine [pm_r 29 0] M none M' ∧ tch [29, 33, 34] M M' ∧ kq (M.1 29 0) (M'.1 29 0) ∧ lnM M' n b (lnO n b p A) := by
  obtain ⟨r14, r16, r18, r17⟩ := hS.2.1 q4
  have hk := tkK_le (n := n) (p := p) (b := b)
  have n3 : ∀ j, j ≤ 4 → ((M.1 29 0 16 = nI j) ↔ tkK n b p = j) := fun j hj => by
    rw [r16]
    exact pm_eq4 (by omega) (by omega)
  have start : ∀ {M' : pm_M}, pm_G mMo_readLine 17 [some (pm_r 29 0), none] [pm_i (if tkK n b p = 1 then lw b (tkS n b p) (tkE n b p) else -4)] M (pm_D none M') → pm_Ev mMo_readLine [pm_r 29 0] M none M' := by
    intro M' kk
    refine pm_Sem_of (ls := [some (pm_r 29 0), none]) ok_mMo_readLine (by decide +kernel) rfl (by decide) (Nat.le_of_ble_eq_true rfl) rfl ?_
    refine bMo_readLine_0 (fun c => ?_) (fun c => bMo_readLine_15 ?_)
    · have q1 := (n3 1 (by omega)).mp c
      rw [if_pos q1] at kk
      exact bMo_readLine_8 (m_lineNow h tkE_ge (tkE_le hp) r14 hS.1) (bMo_readLine_12 kk)
    · rw [if_neg (fun q1 => c ((n3 1 (by omega)).mpr q1))] at kk
      exact kk
  -- a fault here
  have flt : ∀ c : Nat, 1 ≤ c → c ≤ 8 → rE c (tkS n b p) (upd (upd (M.1 29 0) 18 (nI c)) 19 (M.1 29 0 15)) := fun c c1 c2 => ⟨⟨c1, c2⟩, by rw [pk_un (by decide), pk_us], by rw [pk_us]; exact hS.1⟩
  have fend : ∀ (c : Nat) (x : Int32), 1 ≤ c → c ≤ 8 → pm_G mMo_readLine 44 [some (pm_r 29 0), some (pm_i x)] [] (pm_set M 29 0 (upd (upd (M.1 29 0) 18 (nI c)) 19 (M.1 29 0 15))) (pm_D none (pm_set M 29 0 (upd (upd (M.1 29 0) 18 (nI c)) 19 (M.1 29 0 15)))) := by
    intro c x c1 c2
    have z := (rE_pos (flt c c1 c2)).2
    exact bMo_readLine_44 (m_next0 (by rw [pm_set_at]; exact z)) (bMo_readLine_48 (fun y => absurd (by rw [pm_set_at] at y; exact y) z) (fun _ => bMo_readLine_55 ⟨rfl, rfl⟩))
  unfold lnO
  rw [if_neg q0, if_neg q4]
  by_cases q1 : tkK n b p = 1 ∧ ¬ lw b (tkS n b p) (tkE n b p) = -4
  · rw [if_pos q1]
    rw [if_pos q1.1] at start
    obtain ⟨w, hw, ew⟩ := lw_in q1.2
    rw [ew, pm_cl4 (by omega)]
    rw [ew] at start
    have nw : ¬ nI w = -4 := nI_ne45 (by omega)
    have er := eMo_hasRoom (a1 := nI w) (M := M)
    rw [room_at hw hd hA] at er
    have go : ∀ {M' : pm_M}, pm_G mMo_readLine 40 [some (pm_r 29 0), some (pm_i (nI w))] [pm_i (if tTold A w < 4 then 1 else 0), pm_r 29 0] M (pm_D none M') → pm_Ev mMo_readLine [pm_r 29 0] M none M' := fun kk => start (bMo_readLine_17 (fun c => absurd c nw) (fun _ => bMo_readLine_25 (bMo_readLine_30 (m_needs1 (Or.inl (by decide))) (bMo_readLine_34 er kk))))
    by_cases qr : tTold A w < 4
    · rw [if_pos qr]
      rw [if_pos qr] at go
      obtain ⟨G, k1, k2, k3⟩ := m_nextS h (tkE_le hp) r14 r18
      have tp1 : tpm (pm_set M 29 0 G) n b := tpm_set h k2
      have go2 : ∀ {M' : pm_M}, pm_G mMo_readLine 48 [some (pm_r 29 0), some (pm_i (nI w))] [] (pm_set M 29 0 G) (pm_D none M') → pm_Ev mMo_readLine [pm_r 29 0] M none M' := fun kk => go (bMo_readLine_40 (m_needs1 (Or.inl (by decide))) (bMo_readLine_44 k1 kk))
      have t1 : tch [29, 33, 34] M (pm_set M 29 0 G) := tch_set tch_rfl (by decide)
      by_cases qw : tkK n b (tkE n b p) = 4
      · have hE := rS_4 k3 qw
        refine ⟨pm_set M 29 0 G, go2 (bMo_readLine_48 (fun y => absurd (by rw [pm_set_at] at y; exact y) (rE_pos hE).2) (fun _ => bMo_readLine_55 ⟨rfl, rfl⟩)), t1, by rw [pm_set_at]; exact kq_kp k2, ?_⟩
        unfold lnR
        rw [nm_wrong hw qw]
        show rE 1 (tkS n b (tkE n b p)) ((pm_set M 29 0 G).1 29 0)
        rw [pm_set_at]
        exact hE
      · have z18 : (pm_set M 29 0 G).1 29 0 18 ≤ 0 := by
          rw [pm_set_at, (k3.2.1 qw).2.2.1]
          decide
        obtain ⟨M2, l1, l2, l3, l4⟩ := m_lineOf (M := pm_set M 29 0 G) (p := tkE n b p) hw tp1 (mD_kp hd k2) hA qr (by rw [pm_set_at]; exact ⟨tkE_le hp, k3⟩)
        rw [pm_set_at] at l3
        have l3 := kq_trans (kq_kp k2) l3
        have t2 := tch_trans t1 l2
        have tp2 : tpm M2 n b := ⟨h.1, by rw [l3 13 (by omega)]; exact h.2.1, fun j hj => by rw [t2 35 0 (by decide)]; exact h.2.2 j hj⟩
        have go3 : ∀ {M' : pm_M}, pm_G mMo_readLine 61 [some (pm_r 29 0), some (pm_i (nI w))] [] M2 (pm_D none M') → pm_Ev mMo_readLine [pm_r 29 0] M none M' := fun kk => go2 (bMo_readLine_48 (fun _ => bMo_readLine_56 l1 kk) (fun y => absurd z18 y))
        have fin : ∀ {c a : Nat} {M3 : pm_M}, rE c a (M3.1 29 0) → pm_G mMo_readLine 86 [some (pm_r 29 0), some (pm_i (nI w))] [] M3 (pm_D none M3) := fun hE => bMo_readLine_86 (m_next0 (rE_pos hE).2) (bMo_readLine_90 ⟨rfl, rfl⟩)
        unfold lnR
        revert l4
        cases nmO n b w (tHm w) 0 (tkE n b p) (fun _ => 0) with
        | inl z =>
          obtain ⟨c, a⟩ := z
          intro l4
          exact ⟨M2, go3 (bMo_readLine_61 (fun y => absurd y (rE_pos l4).1) (fun _ => fin l4)), t2, l3, l4⟩
        | inr z =>
          obtain ⟨p', v'⟩ := z
          intro l4
          obtain ⟨⟨s1, s2⟩, s3⟩ := l4
          dsimp only
          by_cases qp : tkK n b p' = 4
          · have hE := rS_4 s2 qp
            rw [show tkf n b p' 3 = 1 by unfold tkf; rw [if_pos qp], if_neg (by decide)]
            exact ⟨M2, go3 (bMo_readLine_61 (fun y => absurd y (rE_pos hE).1) (fun _ => fin hE)), t2, l3, hE⟩
          · obtain ⟨u14, u16, u18, u17⟩ := s2.2.1 qp
            have hk' := tkK_le (n := n) (p := p') (b := b)
            by_cases q3 : tkK n b p' = 3
            · rw [show tkf n b p' 3 = 0 by unfold tkf; rw [if_neg qp, if_pos q3], if_pos rfl]
              obtain ⟨G3, j1, j2, j3⟩ := m_nextS tp2 (tkE_le s1) u14 u18
              refine ⟨pm_set M2 29 0 G3, go3 (bMo_readLine_61 (fun _ => bMo_readLine_68 (fun _ => bMo_readLine_77 (bMo_readLine_82 (m_needs1 (Or.inl (by decide))) (bMo_readLine_86 j1 (bMo_readLine_90 ⟨rfl, rfl⟩)))) (fun y => absurd (by rw [u16, q3]; rfl) y)) (fun y => absurd u18 y)), tch_set t2 (by decide), by rw [pm_set_at]; exact kq_trans l3 (kq_kp j2), tkE_le s1, by rw [pm_set_at]; exact j3, mD_kp s3 j2⟩
            · rw [show tkf n b p' 3 = 2 by unfold tkf; rw [if_neg qp, if_neg q3], if_neg (by decide)]
              have hE : rE 2 (tkS n b p') (upd (upd (M2.1 29 0) 18 (nI 2)) 19 (M2.1 29 0 15)) := ⟨by omega, by rw [pk_un (by decide), pk_us], by rw [pk_us]; exact s2.1⟩
              refine ⟨pm_set M2 29 0 (upd (upd (M2.1 29 0) 18 (nI 2)) 19 (M2.1 29 0 15)), go3 (bMo_readLine_61 (fun _ => bMo_readLine_68 (fun y => ?_) (fun _ => bMo_readLine_81 (bMo_readLine_82 (m_needs0 u18) (fin (c := 2) (a := tkS n b p') ?_)))) (fun y => absurd u18 y)), tch_set t2 (by decide), by rw [pm_set_at]; exact kq_trans l3 (kq_kp kp_flt), ?_⟩
              · rw [u16] at y
                exact absurd ((pm_eq4 (a := tkK n b p') (b := 3) (by omega) (by omega)).mp y) q3
              · rw [pm_set_at]
                exact hE
              · show rE 2 (tkS n b p') _
                rw [pm_set_at]
                exact hE
    · rw [if_neg qr]
      rw [if_neg qr] at go
      refine ⟨pm_set M 29 0 (upd (upd (M.1 29 0) 18 (nI 5)) 19 (M.1 29 0 15)), go (bMo_readLine_40 (m_needs0 r18) (fend 5 (nI w) (by omega) (by omega))), tch_set tch_rfl (by decide), by rw [pm_set_at]; exact kq_kp kp_flt, ?_⟩
      show rE 5 (tkS n b p) _
      rw [pm_set_at]
      exact flt 5 (by omega) (by omega)
  · rw [if_neg q1]
    have e : (if tkK n b p = 1 then lw b (tkS n b p) (tkE n b p) else -4) = -4 := by
      by_cases q9 : tkK n b p = 1
      · rw [if_pos q9]
        exact Classical.byContradiction (fun x => q1 ⟨q9, x⟩)
      · rw [if_neg q9]
    rw [e] at start
    have z := (rE_pos (flt 2 (by omega) (by omega))).1
    refine ⟨pm_set M 29 0 (upd (upd (M.1 29 0) 18 (nI 2)) 19 (M.1 29 0 15)), start (bMo_readLine_17 (fun _ => bMo_readLine_29 (bMo_readLine_30 (m_needs0 r18) (bMo_readLine_34 eMo_hasRoom (bMo_readLine_40 (m_needs1 (Or.inr (by rw [pm_set_at]; exact z))) (fend 2 (-4) (by omega) (by omega)))))) (fun y => absurd rfl y)), tch_set tch_rfl (by decide), by rw [pm_set_at]; exact kq_kp kp_flt, ?_⟩
    show rE 2 (tkS n b p) _
    rw [pm_set_at]
    exact flt 2 (by omega) (by omega)
