/-! what is told, in the reference -/
def hiT (f : Nat → Int32) : Nat → Int32
  | 0 => -4
  | T + 1 => mx (f (6 + 5 * T)) (mx (f (5 + 5 * T)) (hiT f T))
theorem hiT_congr {f g : Nat → Int32} : ∀ {T : Nat}, (∀ t, t < T → f (5 + 5 * t) = g (5 + 5 * t) ∧ f (6 + 5 * t) = g (6 + 5 * t)) → hiT f T = hiT g T
  | 0, _ => rfl
  | T + 1, h => by rw [hiT, hiT, hiT_congr (T := T) (fun t ht => h t (by omega)), (h T (by omega)).1, (h T (by omega)).2]
def mD (M : pm_M) (A : tD) : Prop := (∀ j, j < 45 → M.1 33 0 j = A.1 j) ∧ (M.1 29 0 6 = nI A.2.1 ∧ M.1 29 0 7 = nI A.2.2.1 ∧ M.1 29 0 8 = nI A.2.2.2.1 ∧ M.1 29 0 9 = nI A.2.2.2.2.1 ∧ M.1 29 0 11 = hiT A.1 A.2.2.1) ∧ ∀ j, j < 2 * A.2.2.2.2.1 → M.1 34 0 j = A.2.2.2.2.2 j
def kq (g G : Nat → Int32) : Prop := ∀ j, (j < 6 ∨ j = 10 ∨ j = 12 ∨ j = 13 ∨ 20 ≤ j) → G j = g j
theorem kq_trans {f g h : Nat → Int32} (a : kq f g) (c : kq g h) : kq f h := fun j x => (c j x).trans (a j x)
theorem kq_kp {g G : Nat → Int32} (h : kp g G) : kq g G := fun j x => h j (by omega) (by omega) (by omega) (by omega) (by omega) (by omega)
theorem kq_upd {g G : Nat → Int32} {i : Nat} {x : Int32} (h : kq g G) (hi : 6 ≤ i ∧ i ≤ 9 ∨ i = 11) : kq g (upd G i x) := fun j y => by
  rw [pk_un (by omega)]
  exact h j y
theorem nm_eq {n w m i p : Nat} {b : Nat → Nat} {v : Nat → Nat} : nmO n b w (m + 1) i p v = match nS n b (.inr p) (tBd w i) with
    | (.inl f, _) => .inl f
    | (.inr p', x) => nmO n b w m (i + 1) p' (tUp v i x) := by
  rw [nmO, nS]
  by_cases q : tkf n b p 2 = 0
  · rw [if_pos q, if_pos q]
    by_cases q2 : tkV n b p ≤ tBd w i
    · rw [if_pos q2, if_pos q2]
    · rw [if_neg q2, if_neg q2]
  · rw [if_neg q, if_neg q]
def liO (M M' : pm_M) (n : Nat) (b : Nat → Nat) (A : tD) (w : Nat) : (Nat × Nat) ⊕ (Nat × (Nat → Nat)) → Prop
  | .inl (c, a) => rE c a (M'.1 29 0)
  | .inr (p', v) => rT n b (.inr p') (M'.1 29 0) ∧ mD M' (tPut A w v)
theorem tsw_li {w : Nat} (hw : w < 7) : pm_tsw 1 137 4 6 #[27, 56, 88] (nI w) = if w = 4 then 28 else if w = 5 then 57 else if w = 6 then 89 else 138 := (by decide +kernel : ∀ w : Fin 7, pm_tsw 1 137 4 6 #[27, 56, 88] (nI w.val) = if w.val = 4 then 28 else if w.val = 5 then 57 else if w.val = 6 then 89 else 138) ⟨w, hw⟩
theorem m_lineOf {M : pm_M} {n p w : Nat} {b : Nat → Nat} {A : tD} (hw : w < 7) (h : tpm M n b) (hd : mD M A) (hA : A.2.1 ≤ 4 ∧ A.2.2.1 ≤ 4 ∧ A.2.2.2.1 ≤ 4 ∧ A.2.2.2.2.1 ≤ 4) (hr : tTold A w < 4) (ho : rT n b (.inr p) (M.1 29 0)) : ∃ M', pm_Ev mMo_readLineOf [pm_r 29 0, pm_i (nI w)] M none M' ∧ tch [29, 33, 34] M M' ∧ kq (M.1 29 0) (M'.1 29 0) ∧ liO M M' n b A w (nmO n b w (tHm w) 0 p (fun _ => 0)) := by
  obtain ⟨f, P, T, Z, D, g⟩ := A
  obtain ⟨hP4, hT4, hZ4, hD4⟩ := hA
  dsimp only at hP4 hT4 hZ4 hD4
  obtain ⟨d1, ⟨d2, d3, d4, d5, d6⟩, d7⟩ := hd
  dsimp only at d1 d2 d3 d4 d5 d6 d7
  have start : ∀ {M' : pm_M}, pm_G mMo_readLineOf (if w = 4 then 28 else if w = 5 then 57 else if w = 6 then 89 else 138) [some (pm_r 29 0), some (pm_i (nI w))] [] M (pm_D none M') → pm_Ev mMo_readLineOf [pm_r 29 0, pm_i (nI w)] M none M' := by
    intro M' kk
    refine pm_Sem_of (ls := [some (pm_r 29 0), some (pm_i (nI w))]) ok_mMo_readLineOf (by decide +kernel) rfl (by decide) (Nat.le_of_ble_eq_true rfl) rfl ?_
    rw [← tsw_li hw] at kk
    exact bMo_readLineOf_0 kk
  by_cases q4 : w = 4
  · subst q4
    have hP : P < 4 := hr
    obtain ⟨G, k1, k2, k3⟩ := m_num (bd := 99) h ho (by omega)
    have G6 : G 6 = nI P := (k2 6 (by decide) (by decide) (by decide) (by decide) (by decide) (by decide)).trans d2
    rw [show tHm 4 = 0 + 1 from rfl, nm_eq, show tBd 4 0 = 99 from rfl]
    generalize hM' : pm_set (pm_set (pm_set M 29 0 G) 33 0 (upd ((pm_set M 29 0 G).1 33 0) P (nI (nS n b (.inr p) 99).2))) 29 0 (upd ((pm_set M 29 0 G).1 29 0) 6 (nI (P + 1))) = M'
    have e29 : M'.1 29 0 = upd G 6 (nI (P + 1)) := by rw [← hM', pm_set_at, pm_set_at]
    have e33 : M'.1 33 0 = upd (M.1 33 0) P (nI (nS n b (.inr p) 99).2) := by rw [← hM', pm_set_ne _ _ (by decide), pm_set_at, pm_set_ne _ _ (by decide)]
    have tt : tch [29, 33, 34] M M' := by
      rw [← hM']
      exact tch_set (tch_set (tch_set tch_rfl (by decide)) (by decide)) (by decide)
    refine ⟨M', start ?_, tt, by rw [e29]; exact kq_upd (kq_kp k2) (by omega), ?_⟩
    · rw [if_pos rfl]
      refine bMo_readLineOf_28 k1 (bMo_readLineOf_43 (by rw [d2]; exact pm_vin (by omega) (by omega)) (bMo_readLineOf_143 ⟨rfl, ?_⟩))
      rw [d2, pm_cl4 (by omega), show (pm_set M 29 0 G).1 29 0 6 = nI P from G6, nI_1, hM']
    · have k4 := rT_11 (j := 6) (x := nI (P + 1)) (by omega) k3
      rw [← e29] at k4
      revert k4 e33
      generalize nS n b (.inr p) 99 = z
      obtain ⟨o, x⟩ := z
      cases o with
      | inl fa =>
        obtain ⟨c, a⟩ := fa
        exact fun _ k4 => k4
      | inr p' =>
        intro e33 k4
        refine ⟨k4, ?_⟩
        unfold mD tPut
        rw [if_pos rfl, e29, e33, show M'.1 34 0 = M.1 34 0 by rw [← hM']; rfl]
        dsimp only
        have u : ∀ j, j ≠ 6 → j ≠ 14 → j ≠ 15 → j ≠ 16 → j ≠ 17 → j ≠ 18 → j ≠ 19 → upd G 6 (nI (P + 1)) j = M.1 29 0 j := fun j y1 y2 y3 y4 y5 y6 y7 => by rw [pk_un y1]; exact k2 j y2 y3 y4 y5 y6 y7
        rw [u 7 (by decide) (by decide) (by decide) (by decide) (by decide) (by decide) (by decide), u 8 (by decide) (by decide) (by decide) (by decide) (by decide) (by decide) (by decide), u 9 (by decide) (by decide) (by decide) (by decide) (by decide) (by decide) (by decide), u 11 (by decide) (by decide) (by decide) (by decide) (by decide) (by decide) (by decide)]
        refine ⟨fun j hj => ?_, ⟨pk_us, d3, d4, d5, ?_⟩, d7⟩
        · show upd (M.1 33 0) P (nI x) j = upd f P (nI (tUp (fun _ => 0) 0 x 0)) j
          by_cases q : j = P
          · rw [q, pk_us, pk_us]
            rfl
          · rw [pk_un q, pk_un q]
            exact d1 j hj
        · rw [d6]
          exact hiT_congr (fun t ht => by rw [pk_un (by omega), pk_un (by omega)]; exact ⟨rfl, rfl⟩)
  · by_cases q5 : w = 5
    · subst q5
      have hZ : Z < 4 := hr
      obtain ⟨G, k1, k2, k3⟩ := m_num (bd := 99) h ho (by omega)
      have G8 : G 8 = nI Z := (k2 8 (by decide) (by decide) (by decide) (by decide) (by decide) (by decide)).trans d4
      rw [show tHm 5 = 0 + 1 from rfl, nm_eq, show tBd 5 0 = 99 from rfl]
      generalize hM' : pm_set (pm_set (pm_set M 29 0 G) 33 0 (upd ((pm_set M 29 0 G).1 33 0) (24 + Z) (nI (nS n b (.inr p) 99).2))) 29 0 (upd ((pm_set M 29 0 G).1 29 0) 8 (nI (Z + 1))) = M'
      have e29 : M'.1 29 0 = upd G 8 (nI (Z + 1)) := by rw [← hM', pm_set_at, pm_set_at]
      have e33 : M'.1 33 0 = upd (M.1 33 0) (24 + Z) (nI (nS n b (.inr p) 99).2) := by rw [← hM', pm_set_ne _ _ (by decide), pm_set_at, pm_set_ne _ _ (by decide)]
      have tt : tch [29, 33, 34] M M' := by
        rw [← hM']
        exact tch_set (tch_set (tch_set tch_rfl (by decide)) (by decide)) (by decide)
      refine ⟨M', start ?_, tt, by rw [e29]; exact kq_upd (kq_kp k2) (by omega), ?_⟩
      · rw [if_neg (by decide), if_pos rfl]
        refine bMo_readLineOf_57 k1 (bMo_readLineOf_75 (by rw [d4]; exact (md_v hZ).2.1) (bMo_readLineOf_143 ⟨rfl, ?_⟩))
        rw [d4, md_iP hZ, show (pm_set M 29 0 G).1 29 0 8 = nI Z from G8, nI_1, hM']
      · have k4 := rT_11 (j := 8) (x := nI (Z + 1)) (by omega) k3
        rw [← e29] at k4
        revert k4 e33
        generalize nS n b (.inr p) 99 = z
        obtain ⟨o, x⟩ := z
        cases o with
        | inl fa =>
          obtain ⟨c, a⟩ := fa
          exact fun _ k4 => k4
        | inr p' =>
          intro e33 k4
          refine ⟨k4, ?_⟩
          unfold mD tPut
          rw [if_neg (by decide), if_pos rfl, e29, e33, show M'.1 34 0 = M.1 34 0 by rw [← hM']; rfl]
          dsimp only
          have u : ∀ j, j ≠ 8 → j ≠ 14 → j ≠ 15 → j ≠ 16 → j ≠ 17 → j ≠ 18 → j ≠ 19 → upd G 8 (nI (Z + 1)) j = M.1 29 0 j := fun j y1 y2 y3 y4 y5 y6 y7 => by rw [pk_un y1]; exact k2 j y2 y3 y4 y5 y6 y7
          rw [u 6 (by decide) (by decide) (by decide) (by decide) (by decide) (by decide) (by decide), u 7 (by decide) (by decide) (by decide) (by decide) (by decide) (by decide) (by decide), u 9 (by decide) (by decide) (by decide) (by decide) (by decide) (by decide) (by decide), u 11 (by decide) (by decide) (by decide) (by decide) (by decide) (by decide) (by decide)]
          refine ⟨fun j hj => ?_, ⟨d2, d3, pk_us, d5, ?_⟩, d7⟩
          · show upd (M.1 33 0) (24 + Z) (nI x) j = upd f (24 + Z) (nI (tUp (fun _ => 0) 0 x 0)) j
            by_cases q : j = 24 + Z
            · rw [q, pk_us, pk_us]
              rfl
            · rw [pk_un q, pk_un q]
              exact d1 j hj
          · rw [d6]
            exact hiT_congr (fun t ht => by rw [pk_un (by omega), pk_un (by omega)]; exact ⟨rfl, rfl⟩)
    · by_cases q6 : w = 6
      · subst q6
        have hD : D < 4 := hr
        obtain ⟨G, k1, k2, k3⟩ := m_num (bd := 3) h ho (by omega)
        have G9 : G 9 = nI D := (k2 9 (by decide) (by decide) (by decide) (by decide) (by decide) (by decide)).trans d5
        have i2 : 2 * nI D = nI (2 * D) := tw_at (by omega)
        generalize hM1 : pm_set (pm_set M 29 0 G) 34 0 (upd ((pm_set M 29 0 G).1 34 0) (2 * D) (nI (nS n b (.inr p) 3).2)) = M1
        have m29 : M1.1 29 0 = G := by rw [← hM1, pm_set_ne _ _ (by decide), pm_set_at]
        have tp1 : tpm M1 n b := ⟨h.1, by rw [m29, k2 13 (by decide) (by decide) (by decide) (by decide) (by decide) (by decide)]; exact h.2.1, fun j hj => by rw [← hM1]; exact h.2.2 j hj⟩
        obtain ⟨G2, j1, j2, j3⟩ := m_num (M := M1) (bd := 3) (o := (nS n b (.inr p) 3).1) tp1 (by rw [m29]; exact k3) (by omega)
        rw [m29] at j2
        have H9 : G2 9 = nI D := (j2 9 (by decide) (by decide) (by decide) (by decide) (by decide) (by decide)).trans G9
        generalize hM' : pm_set (pm_set (pm_set M1 29 0 G2) 34 0 (upd ((pm_set M1 29 0 G2).1 34 0) (2 * D + 1) (nI (nS n b (nS n b (.inr p) 3).1 3).2))) 29 0 (upd ((pm_set M1 29 0 G2).1 29 0) 9 (nI (D + 1))) = M'
        have e29 : M'.1 29 0 = upd G2 9 (nI (D + 1)) := by rw [← hM', pm_set_at, pm_set_at]
        have e34 : M'.1 34 0 = upd (upd (M.1 34 0) (2 * D) (nI (nS n b (.inr p) 3).2)) (2 * D + 1) (nI (nS n b (nS n b (.inr p) 3).1 3).2) := by rw [← hM', pm_set_ne _ _ (by decide), pm_set_at, pm_set_ne _ _ (by decide), ← hM1, pm_set_at, pm_set_ne _ _ (by decide)]
        have tt : tch [29, 33, 34] M M' := by
          rw [← hM', ← hM1]
          exact tch_set (tch_set (tch_set (tch_set (tch_set tch_rfl (by decide)) (by decide)) (by decide)) (by decide)) (by decide)
        have kk2 := kp_trans k2 j2
        refine ⟨M', start ?_, tt, by rw [e29]; exact kq_upd (kq_kp kk2) (by omega), ?_⟩
        · rw [if_neg (by decide), if_neg (by decide), if_pos rfl]
          refine bMo_readLineOf_89 k1 (bMo_readLineOf_105 (by rw [d5, i2]; exact pm_vin (by omega) (by omega)) (r := nI (nS n b (nS n b (.inr p) 3).1 3).2) (M1 := pm_set M1 29 0 G2) ?_ (bMo_readLineOf_124 ?_ (bMo_readLineOf_143 ⟨rfl, ?_⟩)))
          · rw [d5, i2, pm_cl4 (by omega), hM1]
            exact j1
          · rw [show (pm_set M 29 0 G).1 29 0 9 = nI D from G9, i2, nI_1]
            exact pm_vin (by omega) (by omega)
          · rw [show (pm_set M 29 0 G).1 29 0 9 = nI D from G9, i2, nI_1, pm_cl4 (by omega), show (pm_set M1 29 0 G2).1 29 0 9 = nI D from H9, nI_1, hM']
        · have k4 := rT_11 (j := 9) (x := nI (D + 1)) (by omega) j3
          rw [← e29] at k4
          rw [show tHm 6 = 1 + 1 from rfl, nm_eq, show tBd 6 0 = 3 from rfl]
          revert k4 e34
          generalize nS n b (.inr p) 3 = z
          obtain ⟨o, x⟩ := z
          cases o with
          | inl fa =>
            obtain ⟨c, a⟩ := fa
            exact fun _ k4 => k4
          | inr p' =>
            intro e34 k4
            dsimp only at e34 k4 ⊢
            rw [show (1 : Nat) = 0 + 1 from rfl, nm_eq, show tBd 6 (0 + (0 + 1)) = 3 from rfl]
            revert k4 e34
            generalize nS n b (.inr p') 3 = z
            obtain ⟨o, y⟩ := z
            cases o with
            | inl fa =>
              obtain ⟨c, a⟩ := fa
              exact fun _ k4 => k4
            | inr p'' =>
              intro e34 k4
              refine ⟨k4, ?_⟩
              unfold mD tPut
              rw [if_neg (by decide), if_neg (by decide), if_pos rfl, e29, e34, show M'.1 33 0 = M.1 33 0 by rw [← hM', ← hM1]; rfl]
              dsimp only
              have u : ∀ j, j ≠ 9 → j ≠ 14 → j ≠ 15 → j ≠ 16 → j ≠ 17 → j ≠ 18 → j ≠ 19 → upd G2 9 (nI (D + 1)) j = M.1 29 0 j := fun j y1 y2 y3 y4 y5 y6 y7 => by rw [pk_un y1]; exact kk2 j y2 y3 y4 y5 y6 y7
              rw [u 6 (by decide) (by decide) (by decide) (by decide) (by decide) (by decide) (by decide), u 7 (by decide) (by decide) (by decide) (by decide) (by decide) (by decide) (by decide), u 8 (by decide) (by decide) (by decide) (by decide) (by decide) (by decide) (by decide), u 11 (by decide) (by decide) (by decide) (by decide) (by decide) (by decide) (by decide)]
              refine ⟨d1, ⟨d2, d3, d4, pk_us, d6⟩, fun j hj => ?_⟩
              show upd (upd (M.1 34 0) (2 * D) (nI x)) (2 * D + 1) (nI y) j = upd (upd g (2 * D) (nI x)) (2 * D + 1) (nI y) j
              by_cases y1 : j = 2 * D + 1
              · rw [y1, pk_us, pk_us]
              · rw [pk_un y1, pk_un y1]
                by_cases y2 : j = 2 * D
                · rw [y2, pk_us, pk_us]
                · rw [pk_un y2, pk_un y2]
                  exact d7 j (by omega)
      · have hT : T < 4 := by
          unfold tTold at hr
          rw [if_neg q4, if_neg q5, if_neg q6] at hr
          exact hr
        have h3 : tHm w = 3 := by
          unfold tHm
          rw [if_neg q4, if_neg q5, if_neg q6]
        have bd : ∀ i, tBd w i = if i = 2 then 9 else 3 := fun i => by
          unfold tBd
          rw [if_neg q4, if_neg q5, if_neg q6]
        obtain ⟨mv0, mv1, mv2, mv3, _⟩ := (md_v hT).1
        generalize hM1 : pm_set M 33 0 (upd (M.1 33 0) (4 + 5 * T) (nI w)) = M1
        have m29 : M1.1 29 0 = M.1 29 0 := by rw [← hM1, pm_set_ne _ _ (by decide)]
        have tp1 : tpm M1 n b := ⟨h.1, by rw [m29]; exact h.2.1, fun j hj => by rw [← hM1]; exact h.2.2 j hj⟩
        obtain ⟨G1, j1, j2, j3⟩ := m_person (M := M1) tp1 (by rw [m29]; exact ho)
        rw [m29] at j2
        generalize hM2 : pm_set (pm_set M1 29 0 G1) 33 0 (upd ((pm_set M1 29 0 G1).1 33 0) (5 + 5 * T) (nI (nS n b (.inr p) 3).2)) = M2
        have n29 : M2.1 29 0 = G1 := by rw [← hM2, pm_set_ne _ _ (by decide), pm_set_at]
        have g13 : G1 13 = nI n := by rw [j2 13 (by decide) (by decide) (by decide) (by decide) (by decide) (by decide), pk_un (by decide)]; exact h.2.1
        have tp2 : tpm M2 n b := ⟨h.1, by rw [n29]; exact g13, fun j hj => by rw [← hM2, ← hM1]; exact h.2.2 j hj⟩
        obtain ⟨G2, l1, l2, l3⟩ := m_person (M := M2) tp2 (by rw [n29]; exact j3)
        rw [n29] at l2
        generalize hM3 : pm_set (pm_set M2 29 0 G2) 33 0 (upd ((pm_set M2 29 0 G2).1 33 0) (6 + 5 * T) (nI (nS n b (nS n b (.inr p) 3).1 3).2)) = M3
        have o29 : M3.1 29 0 = G2 := by rw [← hM3, pm_set_ne _ _ (by decide), pm_set_at]
        have g23 : G2 13 = nI n := by rw [l2 13 (by decide) (by decide) (by decide) (by decide) (by decide) (by decide), pk_un (by decide)]; exact g13
        have tp3 : tpm M3 n b := ⟨h.1, by rw [o29]; exact g23, fun j hj => by rw [← hM3, ← hM2, ← hM1]; exact h.2.2 j hj⟩
        obtain ⟨G3, r1, r2, r3⟩ := m_num (M := M3) (bd := 9) tp3 (by rw [o29]; exact l3) (by omega)
        rw [o29] at r2
        have H7 : G3 7 = nI T := by
          rw [r2 7 (by decide) (by decide) (by decide) (by decide) (by decide) (by decide), l2 7 (by decide) (by decide) (by decide) (by decide) (by decide) (by decide), pk_un (by decide), j2 7 (by decide) (by decide) (by decide) (by decide) (by decide) (by decide), pk_un (by decide)]
          exact d3
        generalize hM' : pm_set (pm_set (pm_set M3 29 0 G3) 33 0 (upd ((pm_set M3 29 0 G3).1 33 0) (7 + 5 * T) (nI (nS n b (nS n b (nS n b (.inr p) 3).1 3).1 9).2))) 29 0 (upd ((pm_set M3 29 0 G3).1 29 0) 7 (nI (T + 1))) = M'
        have e29 : M'.1 29 0 = upd G3 7 (nI (T + 1)) := by rw [← hM', pm_set_at, pm_set_at]
        have e33 : M'.1 33 0 = upd (upd (upd (upd (M.1 33 0) (4 + 5 * T) (nI w)) (5 + 5 * T) (nI (nS n b (.inr p) 3).2)) (6 + 5 * T) (nI (nS n b (nS n b (.inr p) 3).1 3).2)) (7 + 5 * T) (nI (nS n b (nS n b (nS n b (.inr p) 3).1 3).1 9).2) := by
          rw [← hM', pm_set_ne _ _ (by decide), pm_set_at, pm_set_ne _ _ (by decide), ← hM3, pm_set_at, pm_set_ne _ _ (by decide), ← hM2, pm_set_at, pm_set_ne _ _ (by decide), ← hM1, pm_set_at]
        have tt : tch [29, 33, 34] M M' := by
          rw [← hM', ← hM3, ← hM2, ← hM1]
          exact tch_set (tch_set (tch_set (tch_set (tch_set (tch_set (tch_set (tch_set tch_rfl (by decide)) (by decide)) (by decide)) (by decide)) (by decide)) (by decide)) (by decide)) (by decide)
        have Go : ∀ j, j ≠ 7 → j ≠ 11 → j ≠ 14 → j ≠ 15 → j ≠ 16 → j ≠ 17 → j ≠ 18 → j ≠ 19 → upd G3 7 (nI (T + 1)) j = M.1 29 0 j := fun j y0 y1 y2 y3 y4 y5 y6 y7 => by
          rw [pk_un y0, r2 j y2 y3 y4 y5 y6 y7, l2 j y2 y3 y4 y5 y6 y7, pk_un y1, j2 j y2 y3 y4 y5 y6 y7, pk_un y1]
        have G11 : upd G3 7 (nI (T + 1)) 11 = mx (nI (nS n b (nS n b (.inr p) 3).1 3).2) (mx (nI (nS n b (.inr p) 3).2) (hiT f T)) := by
          rw [pk_un (by decide), r2 11 (by decide) (by decide) (by decide) (by decide) (by decide) (by decide), l2 11 (by decide) (by decide) (by decide) (by decide) (by decide) (by decide), pk_us, j2 11 (by decide) (by decide) (by decide) (by decide) (by decide) (by decide), pk_us, d6]
        refine ⟨M', start ?_, tt, by rw [e29]; exact fun j y => Go j (by omega) (by omega) (by omega) (by omega) (by omega) (by omega) (by omega) (by omega), ?_⟩
        · rw [if_neg q4, if_neg q5, if_neg q6]
          refine bMo_readLineOf_138 (M1 := M') ?_ (bMo_readLineOf_143 ⟨rfl, rfl⟩)
          refine pm_Sem_of (ls := [some (pm_r 29 0), some (pm_i (nI w)), none]) ok_mMo_readTicket (by decide +kernel) rfl (by decide) (Nat.le_of_ble_eq_true rfl) rfl ?_
          refine bMo_readTicket_0 (r := nI (nS n b (.inr p) 3).2) (M1 := pm_set M1 29 0 G1) (by rw [d3]; exact mv0) (by rw [d3, md_i0 hT, hM1]; exact j1) ?_
          rw [d3]
          refine bMo_readTicket_29 (r := nI (nS n b (nS n b (.inr p) 3).1 3).2) (M1 := pm_set M2 29 0 G2) mv1 (by rw [md_i1 hT, hM2]; exact l1) ?_
          refine bMo_readTicket_41 (r := nI (nS n b (nS n b (nS n b (.inr p) 3).1 3).1 9).2) (M1 := pm_set M3 29 0 G3) mv2 (by rw [md_i2 hT, hM3]; exact r1) ?_
          refine bMo_readTicket_56 mv3 ⟨rfl, ?_⟩
          rw [md_i3 hT, show (pm_set M3 29 0 G3).1 29 0 7 = nI T from H7, nI_1, hM']
        · have k4 := rT_11 (j := 7) (x := nI (T + 1)) (by omega) r3
          rw [← e29] at k4 G11 Go
          rw [h3, show (3 : Nat) = 2 + 1 from rfl, nm_eq, bd, if_neg (by decide)]
          revert k4 e33 G11
          generalize nS n b (.inr p) 3 = z
          obtain ⟨o, x⟩ := z
          cases o with
          | inl fa =>
            obtain ⟨c, a⟩ := fa
            exact fun _ _ k4 => k4
          | inr p' =>
            intro e33 G11 k4
            dsimp only at G11 e33 k4 ⊢
            rw [show (2 : Nat) = 1 + 1 from rfl, nm_eq, bd, if_neg (by decide)]
            revert k4 e33 G11
            generalize nS n b (.inr p') 3 = z
            obtain ⟨o, y⟩ := z
            cases o with
            | inl fa =>
              obtain ⟨c, a⟩ := fa
              exact fun _ _ k4 => k4
            | inr p2 =>
              intro e33 G11 k4
              dsimp only at G11 e33 k4 ⊢
              rw [show (1 : Nat) = 0 + 1 from rfl, nm_eq, bd, if_pos (by decide)]
              generalize hz : nS n b (.inr p2) 9 = z9 at k4 ⊢
              rw [hz] at e33
              obtain ⟨o, z⟩ := z9
              cases o with
              | inl fa =>
                obtain ⟨c, a⟩ := fa
                exact k4
              | inr p3 =>
                refine ⟨k4, ?_⟩
                unfold mD tPut
                rw [if_neg q4, if_neg q5, if_neg q6, e33, show M'.1 34 0 = M.1 34 0 by rw [← hM', ← hM3, ← hM2, ← hM1]; rfl]
                dsimp only
                rw [Go 6 (by decide) (by decide) (by decide) (by decide) (by decide) (by decide) (by decide) (by decide), Go 8 (by decide) (by decide) (by decide) (by decide) (by decide) (by decide) (by decide) (by decide), Go 9 (by decide) (by decide) (by decide) (by decide) (by decide) (by decide) (by decide) (by decide), G11]
                refine ⟨fun j hj => ?_, ⟨d2, by rw [e29, pk_us], d4, d5, ?_⟩, d7⟩
                · show upd (upd (upd (upd (M.1 33 0) (4 + 5 * T) (nI w)) (5 + 5 * T) (nI x)) (6 + 5 * T) (nI y)) (7 + 5 * T) (nI z) j = upd (upd (upd (upd f (4 + 5 * T) (nI w)) (5 + 5 * T) (nI x)) (6 + 5 * T) (nI y)) (7 + 5 * T) (nI z) j
                  by_cases y1 : j = 7 + 5 * T
                  · rw [y1, pk_us, pk_us]
                  · rw [pk_un y1, pk_un y1]
                    by_cases y2 : j = 6 + 5 * T
                    · rw [y2, pk_us, pk_us]
                    · rw [pk_un y2, pk_un y2]
                      by_cases y3 : j = 5 + 5 * T
                      · rw [y3, pk_us, pk_us]
                      · rw [pk_un y3, pk_un y3]
                        by_cases y4 : j = 4 + 5 * T
                        · rw [y4, pk_us, pk_us]
                        · rw [pk_un y4, pk_un y4]
                          exact d1 j hj
                · show mx (nI y) (mx (nI x) (hiT f T)) = hiT (upd (upd (upd (upd f (4 + 5 * T) (nI w)) (5 + 5 * T) (nI x)) (6 + 5 * T) (nI y)) (7 + 5 * T) (nI z)) (T + 1)
                  rw [hiT, pk_un (show 6 + 5 * T ≠ 7 + 5 * T by omega), pk_us, pk_un (show 5 + 5 * T ≠ 7 + 5 * T by omega), pk_un (show 5 + 5 * T ≠ 6 + 5 * T by omega), pk_us]
                  rw [hiT_congr (f := upd (upd (upd (upd f (4 + 5 * T) (nI w)) (5 + 5 * T) (nI x)) (6 + 5 * T) (nI y)) (7 + 5 * T) (nI z)) (g := f) (fun t ht => ⟨by rw [pk_un (by omega), pk_un (by omega), pk_un (by omega), pk_un (by omega)], by rw [pk_un (by omega), pk_un (by omega), pk_un (by omega), pk_un (by omega)]⟩)]
