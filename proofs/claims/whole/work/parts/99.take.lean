/-! a line, read by the class -/
theorem tkK_le {n p : Nat} {b : Nat → Nat} : tkK n b p ≤ 4 := by
  unfold tkK
  split
  · omega
  · split
    · omega
    · split
      · omega
      · split <;> omega
theorem tkf_le {n p w : Nat} {b : Nat → Nat} : tkf n b p w ≤ 2 := by
  unfold tkf
  split
  · omega
  · split <;> omega
theorem c_blame {M : pm_M} {x y : Int32} : ∃ M', pm_Ev mTe_blame [pm_r 23 0, pm_i x, pm_i y] M (some (pm_i 0)) M' ∧ tch [23] M M' ∧ M'.1 23 0 0 = x ∧ M'.1 23 0 1 = y := by
  refine ⟨_, eTe_blame, ?_, ?_, ?_⟩
  · unfold gTe_blame
    exact tch_set (tch_set tch_rfl (by decide)) (by decide)
  · unfold gTe_blame
    rw [pm_set_at, pk_un (by decide), pm_set_at, pk_us]
  · unfold gTe_blame
    rw [pm_set_at, pk_us]
theorem c_take {M : pm_M} {n p w : Nat} {b : Nat → Nat} (h : tp M n b) (hp : p ≤ n) (h2 : M.1 21 0 2 = nI p) (hw : w ≤ 3) : ∃ M', pm_Ev mTe_take [pm_r 23 0, pm_r 21 0, pm_i (nI w)] M (some (pm_i (if tkf n b p w = 0 then 1 else 0))) M' ∧ tch [21, 23] M M' ∧ (M'.1 21 0 1 = nI n ∧ M'.1 21 0 2 = nI (tkE n b p) ∧ M'.1 21 0 4 = nI (tkS n b p) ∧ (tkK n b p = 2 → M'.1 21 0 5 = nI (tkV n b p))) ∧ (tkf n b p w = 0 → M'.1 23 0 = M.1 23 0) ∧ (¬ tkf n b p w = 0 → M'.1 23 0 0 = nI (tkf n b p w) ∧ M'.1 23 0 1 = nI (tkS n b p)) := by
  obtain ⟨M1, k1, k2, k3, k4, k5, k6, k7⟩ := c_step h hp h2
  have hk := tkK_le (n := n) (p := p) (b := b)
  by_cases q4 : tkK n b p = 4
  · obtain ⟨M2, b1, b2, b3, b4⟩ := c_blame (M := M1) (x := 1) (y := M1.1 21 0 4)
    have e : tkf n b p w = 1 := by unfold tkf; rw [if_pos q4]
    rw [e]
    refine ⟨M2, ?_, tch_trans (tch_mono k2 (by decide)) (tch_mono b2 (by decide)), ⟨by rw [b2 21 0 (by decide)]; exact k3, by rw [b2 21 0 (by decide)]; exact k4, by rw [b2 21 0 (by decide)]; exact k6, fun x => absurd (q4.symm.trans x) (by decide)⟩, fun x => absurd x (by decide), fun _ => ⟨by rw [b3]; rfl, by rw [b4, k6]⟩⟩
    refine pm_Sem_of (ls := [some (pm_r 23 0), some (pm_r 21 0), some (pm_i (nI w))]) ok_mTe_take (by decide +kernel) rfl (by decide) (Nat.le_of_ble_eq_true rfl) rfl ?_
    exact bTe_take_0 k1 (bTe_take_4 (fun _ => bTe_take_12 b1 (bTe_take_21 rfl ⟨rfl, rfl⟩)) (fun c => absurd (by rw [k5, q4]; rfl) c))
  · have n4 : ¬ M1.1 21 0 3 = 4 := by
      rw [k5]
      exact fun x => q4 ((pm_eq4 (a := tkK n b p) (b := 4) (by omega) (by omega)).mp x)
    by_cases qw : tkK n b p = w
    · have e : tkf n b p w = 0 := by unfold tkf; rw [if_neg q4, if_pos qw]
      rw [e]
      refine ⟨M1, ?_, tch_mono k2 (by decide), ⟨k3, k4, k6, k7⟩, fun _ => k2 23 0 (by decide), fun x => absurd rfl x⟩
      refine pm_Sem_of (ls := [some (pm_r 23 0), some (pm_r 21 0), some (pm_i (nI w))]) ok_mTe_take (by decide +kernel) rfl (by decide) (Nat.le_of_ble_eq_true rfl) rfl ?_
      exact bTe_take_0 k1 (bTe_take_4 (fun c => absurd c n4) (fun _ => bTe_take_22 (fun _ => bTe_take_42 (bTe_take_47 rfl ⟨rfl, rfl⟩)) (fun c => absurd (by rw [k5, qw]) c)))
    · obtain ⟨M2, b1, b2, b3, b4⟩ := c_blame (M := M1) (x := 2) (y := M1.1 21 0 4)
      have e : tkf n b p w = 2 := by unfold tkf; rw [if_neg q4, if_neg qw]
      rw [e]
      refine ⟨M2, ?_, tch_trans (tch_mono k2 (by decide)) (tch_mono b2 (by decide)), ⟨by rw [b2 21 0 (by decide)]; exact k3, by rw [b2 21 0 (by decide)]; exact k4, by rw [b2 21 0 (by decide)]; exact k6, fun x => by rw [b2 21 0 (by decide)]; exact k7 x⟩, fun x => absurd x (by decide), fun _ => ⟨by rw [b3]; rfl, by rw [b4, k6]⟩⟩
      refine pm_Sem_of (ls := [some (pm_r 23 0), some (pm_r 21 0), some (pm_i (nI w))]) ok_mTe_take (by decide +kernel) rfl (by decide) (Nat.le_of_ble_eq_true rfl) rfl ?_
      refine bTe_take_0 k1 (bTe_take_4 (fun c => absurd c n4) (fun _ => bTe_take_22 (fun c => ?_) (fun _ => bTe_take_30 b1 (bTe_take_39 (fun _ => bTe_take_46 (bTe_take_47 rfl ⟨rfl, rfl⟩)) (fun c => absurd rfl c)))))
      rw [k5] at c
      exact absurd ((pm_eq4 (by omega) (by omega)).mp c) qw
def nmC (M M' : pm_M) (n w i : Nat) : (Nat × Nat) ⊕ (Nat × (Nat → Nat)) → Prop
  | .inl (c, a) => pm_G mTe_takeNumbers 2 [some (pm_r 23 0), some (pm_r 21 0), some (pm_i (nI w)), some (pm_i (nI i))] [] M (pm_D (some (pm_i 0)) M') ∧ (M'.1 23 0 0 = nI c ∧ M'.1 23 0 1 = nI a) ∧ M'.1 21 0 1 = nI n
  | .inr (p', v') => pm_G mTe_takeNumbers 2 [some (pm_r 23 0), some (pm_r 21 0), some (pm_i (nI w)), some (pm_i (nI i))] [] M (pm_D (some (pm_i 1)) M') ∧ p' ≤ n ∧ M'.1 21 0 1 = nI n ∧ M'.1 21 0 2 = nI p' ∧ M'.1 23 0 = M.1 23 0 ∧ ∀ j, j < tHm w → M'.1 24 0 j = nI (v' j)
theorem c_nums {n w : Nat} {b : Nat → Nat} (hw : w < 7) : ∀ (m i p : Nat) (v : Nat → Nat) (M : pm_M), i + m = tHm w → tp M n b → p ≤ n → M.1 21 0 2 = nI p → (∀ j, j < i → M.1 24 0 j = nI (v j)) → ∃ M', tch [21, 23, 24] M M' ∧ nmC M M' n w i (nmO n b w m i p v)
  | 0, i, p, v, M, hi, h, hp, h2, hv => by
    have ei : i = tHm w := by omega
    refine ⟨M, tch_rfl, ?_, hp, h.2.1, h2, rfl, fun j hj => hv j (by omega)⟩
    obtain ⟨t1, t2, t3⟩ := tHm_at (M := M) hw
    have eh := eTe_howManyNumbers (a0 := nI w) (M := M)
    rw [t1] at eh
    exact bTe_takeNumbers_2 eh (bTe_takeNumbers_7 (fun _ => bTe_takeNumbers_59 rfl ⟨rfl, rfl⟩) (fun c => absurd ((pm_le4 (by omega) (by omega)).mpr (by omega)) c))
  | m + 1, i, p, v, M, hi, h, hp, h2, hv => by
    obtain ⟨t1, t2, t3⟩ := tHm_at (M := M) hw
    have eh := eTe_howManyNumbers (a0 := nI w) (M := M)
    rw [t1] at eh
    have le : ¬ nI (tHm w) ≤ nI i := fun x => by
      have := (pm_le4 (by omega) (by omega)).mp x
      omega
    obtain ⟨M1, k1, k2, ⟨k3, k4, k5, k6⟩, k7, k8⟩ := c_take (w := 2) h hp h2 (by omega)
    rw [nmO]
    by_cases q : tkf n b p 2 = 0
    · rw [if_pos q]
      rw [if_pos q] at k1
      have hk2 : tkK n b p = 2 := by
        unfold tkf at q
        by_cases q4 : tkK n b p = 4
        · rw [if_pos q4] at q
          omega
        · rw [if_neg q4] at q
          by_cases q5 : tkK n b p = 2
          · exact q5
          · rw [if_neg q5] at q
            omega
      obtain ⟨u1, u2⟩ := tBd_at (M := M1) hw (show i < 3 by omega)
      have eb := eTe_boundOf (a0 := nI w) (a1 := nI i) (M := M1)
      rw [u1] at eb
      have h99 := tkV_le hk2
      by_cases qv : tkV n b p ≤ tBd w i
      · rw [if_pos qv]
        generalize hM2 : pm_set M1 24 0 (upd (M1.1 24 0) i (nI (tkV n b p))) = M2
        have t9 : tch [21, 23, 24] M M2 := by
          rw [← hM2]
          exact tch_set (tch_mono k2 (by decide)) (by decide)
        have tp2 : tp M2 n b := ⟨h.1, by rw [← hM2]; exact k3, fun j hj => by rw [t9 22 0 (by decide)]; exact h.2.2 j hj⟩
        have e23 : M2.1 23 0 = M.1 23 0 := by rw [← hM2, pm_set_ne _ _ (by decide)]; exact k7 q
        have e24 : M2.1 24 0 = upd (M.1 24 0) i (nI (tkV n b p)) := by rw [← hM2, pm_set_at, k2 24 0 (by decide)]
        obtain ⟨M', r1, r2⟩ := c_nums hw m (i + 1) (tkE n b p) (tUp v i (tkV n b p)) M2 (by omega) tp2 (tkE_le hp) (by rw [← hM2]; exact k4) (fun j hj => by
          rw [e24]
          unfold tUp
          by_cases x : j = i
          · rw [if_pos x, x, pk_us]
          · rw [if_neg x, pk_un x]
            exact hv j (by omega))
        have go : ∀ {x : Option pm_V}, pm_G mTe_takeNumbers 2 [some (pm_r 23 0), some (pm_r 21 0), some (pm_i (nI w)), some (pm_i (nI (i + 1)))] [] M2 (pm_D x M') → pm_G mTe_takeNumbers 2 [some (pm_r 23 0), some (pm_r 21 0), some (pm_i (nI w)), some (pm_i (nI i))] [] M (pm_D x M') := by
          intro x kk
          refine bTe_takeNumbers_2 eh (bTe_takeNumbers_7 (fun c => absurd c le) (fun _ => bTe_takeNumbers_10 k1 (bTe_takeNumbers_16 (fun c => absurd c (by decide)) (fun _ => bTe_takeNumbers_21 eb (bTe_takeNumbers_30 (fun _ => bTe_takeNumbers_43 (pm_vin (by omega) (by omega)) ?_) (fun c => ?_))))))
          · rw [pm_cl4 (by omega), k6 hk2, hM2, nI_1]
            exact kk
          · rw [k6 hk2] at c
            exact absurd ((pm_le4 (by omega) (by omega)).mpr qv) c
        refine ⟨M', tch_trans t9 r1, ?_⟩
        revert r2
        cases nmO n b w m (i + 1) (tkE n b p) (tUp v i (tkV n b p)) with
        | inl z =>
          obtain ⟨c, a⟩ := z
          exact fun r2 => ⟨go r2.1, r2.2⟩
        | inr z =>
          obtain ⟨p', v'⟩ := z
          exact fun r2 => ⟨go r2.1, r2.2.1, r2.2.2.1, r2.2.2.2.1, r2.2.2.2.2.1.trans e23, r2.2.2.2.2.2⟩
      · rw [if_neg qv]
        obtain ⟨M2, b1, b2, b3, b4⟩ := c_blame (M := M1) (x := 3) (y := M1.1 21 0 4)
        refine ⟨M2, tch_trans (tch_mono k2 (by decide)) (tch_mono b2 (by decide)), ?_, ⟨by rw [b3]; rfl, by rw [b4, k5]⟩, by rw [b2 21 0 (by decide)]; exact k3⟩
        refine bTe_takeNumbers_2 eh (bTe_takeNumbers_7 (fun c => absurd c le) (fun _ => bTe_takeNumbers_10 k1 (bTe_takeNumbers_16 (fun c => absurd c (by decide)) (fun _ => bTe_takeNumbers_21 eb (bTe_takeNumbers_30 (fun c => ?_) (fun _ => bTe_takeNumbers_33 b1 (bTe_takeNumbers_42 rfl ⟨rfl, rfl⟩)))))))
        rw [k6 hk2] at c
        exact absurd ((pm_le4 (by omega) (by omega)).mp c) qv
    · rw [if_neg q]
      rw [if_neg q] at k1
      exact ⟨M1, tch_mono k2 (by decide), bTe_takeNumbers_2 eh (bTe_takeNumbers_7 (fun c => absurd c le) (fun _ => bTe_takeNumbers_10 k1 (bTe_takeNumbers_16 (fun _ => bTe_takeNumbers_19 rfl ⟨rfl, rfl⟩) (fun c => absurd rfl c)))), k8 q, k3⟩
theorem told_at {M : pm_M} {A : tD} {w : Nat} (hw : w < 7) (hd : cD M A) : fTe_toldAlready (nI w) 1 M = nI (tTold A w) := by
  obtain ⟨⟨d1, d2, d3⟩, d4, d5, d6, d7, d8, ⟨d9, d10⟩, d11⟩ := hd
  have n : ∀ k, k < 7 → (nI w = nI k ↔ w = k) := fun k hk => pm_eq4 (by omega) (by omega)
  unfold fTe_toldAlready tTold
  by_cases q4 : w = 4
  · rw [if_pos (show nI w = 4 from (n 4 (by omega)).mpr q4), if_pos q4, d1]
  · rw [if_neg (show ¬ nI w = 4 from fun x => q4 ((n 4 (by omega)).mp x)), if_neg q4]
    by_cases q5 : w = 5
    · rw [if_pos (show nI w = 5 from (n 5 (by omega)).mpr q5), if_pos q5, d9]
    · rw [if_neg (show ¬ nI w = 5 from fun x => q5 ((n 5 (by omega)).mp x)), if_neg q5]
      by_cases q6 : w = 6
      · rw [if_pos (show nI w = 6 from (n 6 (by omega)).mpr q6), if_pos q6, d10]
      · rw [if_neg (show ¬ nI w = 6 from fun x => q6 ((n 6 (by omega)).mp x)), if_neg q6, d2]
theorem told_le {A : tD} {w : Nat} (h : A.2.1 ≤ 4 ∧ A.2.2.1 ≤ 4 ∧ A.2.2.2.1 ≤ 4 ∧ A.2.2.2.2.1 ≤ 4) : tTold A w ≤ 4 := by
  unfold tTold
  split
  · exact h.1
  · split
    · exact h.2.2.1
    · split
      · exact h.2.2.2
      · exact h.2.1
def lnC (M M' : pm_M) (n : Nat) (b : Nat → Nat) (A : tD) : Option ((Nat × Nat) ⊕ (Nat × tD)) → Prop
  | none => pm_Ev mTe_takeLine [pm_r 23 0, pm_r 21 0, pm_r 4 1] M (some (pm_i 0)) M' ∧ M'.1 23 0 = M.1 23 0 ∧ cD M' A
  | some (.inl (c, a)) => pm_Ev mTe_takeLine [pm_r 23 0, pm_r 21 0, pm_r 4 1] M (some (pm_i 0)) M' ∧ M'.1 23 0 0 = nI c ∧ M'.1 23 0 1 = nI a
  | some (.inr (p', A')) => pm_Ev mTe_takeLine [pm_r 23 0, pm_r 21 0, pm_r 4 1] M (some (pm_i 1)) M' ∧ p' ≤ n ∧ tp M' n b ∧ M'.1 21 0 2 = nI p' ∧ cD M' A' ∧ M'.1 23 0 0 = M.1 23 0 0
theorem c_takeLine {M : pm_M} {n p : Nat} {b : Nat → Nat} {A : tD} (h : tp M n b) (hp : p ≤ n) (h2 : M.1 21 0 2 = nI p) (hd : cD M A) (hA : A.2.1 ≤ 4 ∧ A.2.2.1 ≤ 4 ∧ A.2.2.2.1 ≤ 4 ∧ A.2.2.2.2.1 ≤ 4) : ∃ M', cf M M' ∧ M'.1 21 0 1 = nI n ∧ lnC M M' n b A (lnO n b p A) := by
  obtain ⟨M1, k1, k2, k3, k4, k5, k6, k7⟩ := c_step h hp h2
  have hk := tkK_le (n := n) (p := p) (b := b)
  have tp1 : tp M1 n b := ⟨h.1, k3, fun j hj => by rw [k2 22 0 (by decide)]; exact h.2.2 j hj⟩
  have cD1 : cD M1 A := cD_same hd (fun a x y => k2 a 1 (by simp; omega)) (by rw [k2 23 0 (by decide)]) (by rw [k2 23 0 (by decide)]) (k2 25 0 (by decide)) (k2 26 0 (by decide))
  have cf1 : cf M M1 := cf_tch k2 (by decide)
  have start : ∀ {x : Int32} {M' : pm_M}, pm_G mTe_takeLine 4 [some (pm_r 23 0), some (pm_r 21 0), some (pm_r 4 1), none] [] M1 (pm_D (some (pm_i x)) M') → pm_Ev mTe_takeLine [pm_r 23 0, pm_r 21 0, pm_r 4 1] M (some (pm_i x)) M' := by
    intro x M' kk
    refine pm_Sem_of (ls := [some (pm_r 23 0), some (pm_r 21 0), some (pm_r 4 1), none]) ok_mTe_takeLine (by decide +kernel) rfl (by decide) (Nat.le_of_ble_eq_true rfl) rfl ?_
    exact bTe_takeLine_0 k1 kk
  have n3 : ∀ j, j ≤ 4 → ((M1.1 21 0 3 = nI j) ↔ tkK n b p = j) := fun j hj => by
    rw [k5]
    exact pm_eq4 (by omega) (by omega)
  unfold lnO
  by_cases q0 : tkK n b p = 0
  · rw [if_pos q0]
    exact ⟨M1, cf1, k3, start (bTe_takeLine_4 (fun _ => bTe_takeLine_11 rfl ⟨rfl, rfl⟩) (fun c => absurd ((n3 0 (by omega)).mpr q0) c)), k2 23 0 (by decide), cD1⟩
  · rw [if_neg q0]
    have m0 : ¬ M1.1 21 0 3 = 0 := fun x => q0 ((n3 0 (by omega)).mp x)
    have cfb : ∀ {M2 : pm_M}, tch [23] M1 M2 → cf M M2 := fun t => cf_trans cf1 (cf_tch t (by decide))
    by_cases q4 : tkK n b p = 4
    · rw [if_pos q4]
      obtain ⟨M2, b1, b2, b3, b4⟩ := c_blame (M := M1) (x := 1) (y := M1.1 21 0 4)
      exact ⟨M2, cfb b2, by rw [b2 21 0 (by decide)]; exact k3, start (bTe_takeLine_4 (fun c => absurd c m0) (fun _ => bTe_takeLine_13 (fun _ => bTe_takeLine_21 b1 (bTe_takeLine_30 rfl ⟨rfl, rfl⟩)) (fun c => absurd ((n3 4 (by omega)).mpr q4) c))), by rw [b3]; rfl, by rw [b4, k6]⟩
    · rw [if_neg q4]
      have m4 : ¬ M1.1 21 0 3 = 4 := fun x => q4 ((n3 4 (by omega)).mp x)
      have walk : ∀ {x : Int32} {M' : pm_M}, pm_G mTe_takeLine 48 [some (pm_r 23 0), some (pm_r 21 0), some (pm_r 4 1), none] [pm_i (if tkK n b p = 1 then lw b (tkS n b p) (tkE n b p) else -4)] M1 (pm_D (some (pm_i x)) M') → pm_Ev mTe_takeLine [pm_r 23 0, pm_r 21 0, pm_r 4 1] M (some (pm_i x)) M' := by
        intro x M' kk
        refine start (bTe_takeLine_4 (fun c => absurd c m0) (fun _ => bTe_takeLine_13 (fun c => absurd c m4) (fun _ => bTe_takeLine_31 (fun c => ?_) (fun c => bTe_takeLine_46 ?_))))
        · have q1 := (n3 1 (by omega)).mp c
          rw [if_pos q1] at kk
          exact bTe_takeLine_39 (c_lineOf tp1 tkE_ge (tkE_le hp) k4 k6) (bTe_takeLine_43 kk)
        · rw [if_neg (fun q1 => c ((n3 1 (by omega)).mpr q1))] at kk
          exact kk
      by_cases q1 : tkK n b p = 1 ∧ ¬ lw b (tkS n b p) (tkE n b p) = -4
      · rw [if_pos q1]
        rw [if_pos q1.1] at walk
        obtain ⟨w, hw, ew⟩ := lw_in q1.2
        rw [ew, pm_cl4 (by omega)]
        rw [ew] at walk
        have nw : ¬ nI w = -4 := nI_ne45 (by omega)
        have et := eTe_toldAlready (a1 := nI w) (k2 := 1) (M := M1)
        rw [told_at hw cD1] at et
        by_cases qr : tTold A w < 4
        · rw [if_pos qr]
          have walk2 : ∀ {x : Int32} {M' : pm_M}, pm_G mTe_takeLine 85 [some (pm_r 23 0), some (pm_r 21 0), some (pm_r 4 1), some (pm_i (nI w))] [] M1 (pm_D (some (pm_i x)) M') → pm_Ev mTe_takeLine [pm_r 23 0, pm_r 21 0, pm_r 4 1] M (some (pm_i x)) M' := fun kk => walk (bTe_takeLine_48 (fun c => absurd c nw) (fun _ => bTe_takeLine_65 et (bTe_takeLine_71 (fun _ => kk) (fun c => absurd ((pm_lt4 (a := tTold A w) (b := 4) (by omega) (by omega)).mpr qr) c))))
          obtain ⟨M2, r1, r2⟩ := c_nums hw (tHm w) 0 (tkE n b p) (fun _ => 0) M1 (by omega) tp1 (tkE_le hp) k4 (fun j hj => absurd hj (Nat.not_lt_zero _))
          have mkN : ∀ {x : Int32}, pm_G mTe_takeNumbers 2 [some (pm_r 23 0), some (pm_r 21 0), some (pm_i (nI w)), some (pm_i 0)] [] M1 (pm_D (some (pm_i x)) M2) → pm_Ev mTe_takeNumbers [pm_r 23 0, pm_r 21 0, pm_i (nI w)] M1 (some (pm_i x)) M2 := by
            intro x kk
            refine pm_Sem_of (ls := [some (pm_r 23 0), some (pm_r 21 0), some (pm_i (nI w)), none]) ok_mTe_takeNumbers (by decide +kernel) rfl (by decide) (Nat.le_of_ble_eq_true rfl) rfl ?_
            exact bTe_takeNumbers_0 kk
          unfold lnR
          revert r2
          cases nmO n b w (tHm w) 0 (tkE n b p) (fun _ => 0) with
          | inl z =>
            obtain ⟨c, a⟩ := z
            intro r2
            exact ⟨M2, cf_trans cf1 (cf_tch r1 (by decide)), r2.2.2, walk2 (bTe_takeLine_85 (mkN r2.1) (bTe_takeLine_91 (fun _ => bTe_takeLine_103 rfl ⟨rfl, rfl⟩) (fun c => absurd rfl c))), r2.2.1⟩
          | inr z =>
            obtain ⟨p', v'⟩ := z
            intro r2
            obtain ⟨s1, s2, s3, s4, s5, s6⟩ := r2
            have tp2 : tp M2 n b := ⟨h.1, s3, fun j hj => by rw [r1 22 0 (by decide)]; exact tp1.2.2 j hj⟩
            obtain ⟨M3, j1, j2, ⟨j3, j4, j5, j6⟩, j7, j8⟩ := c_take (w := 3) tp2 s2 s4 (by omega)
            by_cases qs : tkf n b p' 3 = 0
            · dsimp only
              rw [if_pos qs]
              rw [if_pos qs] at j1
              have t13 : tch [21, 23, 24] M1 M3 := tch_trans r1 (tch_mono j2 (by decide))
              have e23 : M3.1 23 0 = M1.1 23 0 := (j7 qs).trans s5
              have cD3 : cD M3 A := cD_same cD1 (fun a x y => t13 a 1 (by simp; omega)) (by rw [e23]) (by rw [e23]) (t13 25 0 (by decide)) (t13 26 0 (by decide))
              obtain ⟨M4, u1, u2, u3, u4, u5, u6⟩ := c_put (v := v') hw ⟨hA.1, hA.2.1⟩ cD3 qr (fun i hi => by rw [j2 24 0 (by decide)]; exact s6 i hi)
              refine ⟨M4, cf_trans cf1 (cf_trans (cf_tch t13 (by decide)) u3), by rw [u4]; exact j3, walk2 (bTe_takeLine_85 (mkN s1) (bTe_takeLine_91 (fun c => absurd c (by decide)) (fun _ => bTe_takeLine_94 j1 (bTe_takeLine_100 (fun c => absurd c (by decide)) (fun _ => bTe_takeLine_105 u1 (bTe_takeLine_111 rfl ⟨rfl, rfl⟩)))))), tkE_le s2, ⟨h.1, by rw [u4]; exact j3, fun j hj => by rw [u5, t13 22 0 (by decide)]; exact tp1.2.2 j hj⟩, by rw [u4]; exact j4, u2, by rw [u6, e23, k2 23 0 (by decide)]⟩
            · dsimp only
              rw [if_neg qs]
              rw [if_neg qs] at j1
              exact ⟨M3, cf_trans cf1 (cf_trans (cf_tch r1 (by decide)) (cf_tch j2 (by decide))), j3, walk2 (bTe_takeLine_85 (mkN s1) (bTe_takeLine_91 (fun c => absurd c (by decide)) (fun _ => bTe_takeLine_94 j1 (bTe_takeLine_100 (fun _ => bTe_takeLine_103 rfl ⟨rfl, rfl⟩) (fun c => absurd rfl c))))), j8 qs⟩
        · rw [if_neg qr]
          obtain ⟨M2, b1, b2, b3, b4⟩ := c_blame (M := M1) (x := 5) (y := M1.1 21 0 4)
          refine ⟨M2, cfb b2, by rw [b2 21 0 (by decide)]; exact k3, walk (bTe_takeLine_48 (fun c => absurd c nw) (fun _ => bTe_takeLine_65 et (bTe_takeLine_71 (fun c => ?_) (fun _ => bTe_takeLine_75 b1 (bTe_takeLine_84 rfl ⟨rfl, rfl⟩))))), by rw [b3]; rfl, by rw [b4, k6]⟩
          exact absurd ((pm_lt4 (a := tTold A w) (b := 4) (by have := told_le (w := w) hA; omega) (by omega)).mp c) qr
      · rw [if_neg q1]
        obtain ⟨M2, b1, b2, b3, b4⟩ := c_blame (M := M1) (x := 2) (y := M1.1 21 0 4)
        have e : (if tkK n b p = 1 then lw b (tkS n b p) (tkE n b p) else -4) = -4 := by
          by_cases q9 : tkK n b p = 1
          · rw [if_pos q9]
            exact Classical.byContradiction (fun x => q1 ⟨q9, x⟩)
          · rw [if_neg q9]
        rw [e] at walk
        exact ⟨M2, cfb b2, by rw [b2 21 0 (by decide)]; exact k3, walk (bTe_takeLine_48 (fun _ => bTe_takeLine_55 b1 (bTe_takeLine_64 rfl ⟨rfl, rfl⟩)) (fun c => absurd rfl c)), by rw [b3]; rfl, by rw [b4, k6]⟩
