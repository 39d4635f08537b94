/-! a line, read by the reference -/
def rS (n : Nat) (b : Nat → Nat) (p : Nat) (g : Nat → Int32) : Prop := g 15 = nI (tkS n b p) ∧ (¬ tkK n b p = 4 → g 14 = nI (tkE n b p) ∧ g 16 = nI (tkK n b p) ∧ g 18 = 0 ∧ (tkK n b p = 2 → g 17 = nI (tkV n b p))) ∧ (tkK n b p = 4 → g 18 = 1 ∧ g 19 = nI (tkS n b p))
def rE (c a : Nat) (g : Nat → Int32) : Prop := (1 ≤ c ∧ c ≤ 8) ∧ g 18 = nI c ∧ g 19 = nI a
/-- the reader stands at a token that is read already, or has a fault -/
def rT (n : Nat) (b : Nat → Nat) (o : (Nat × Nat) ⊕ Nat) (g : Nat → Int32) : Prop := match o with
  | .inl (c, a) => rE c a g
  | .inr p => p ≤ n ∧ rS n b p g
def kp (g G : Nat → Int32) : Prop := ∀ j, j ≠ 14 → j ≠ 15 → j ≠ 16 → j ≠ 17 → j ≠ 18 → j ≠ 19 → G j = g j
theorem rE_pos {c a : Nat} {g : Nat → Int32} (h : rE c a g) : ¬ g 18 = 0 ∧ ¬ g 18 ≤ 0 := by
  rw [h.2.1]
  exact ⟨nI_ne0 (by have := h.1; omega) (by have := h.1; omega), nI_nle (by have := h.1; omega) (by have := h.1; omega)⟩
theorem rS_4 {n p : Nat} {b : Nat → Nat} {g : Nat → Int32} (h : rS n b p g) (q : tkK n b p = 4) : rE 1 (tkS n b p) g := ⟨by omega, (h.2.2 q).1, (h.2.2 q).2⟩
theorem tpm_set {M : pm_M} {n : Nat} {b : Nat → Nat} {G : Nat → Int32} (h : tpm M n b) (hk : kp (M.1 29 0) G) : tpm (pm_set M 29 0 G) n b := ⟨h.1, by rw [pm_set_at, hk 13 (by decide) (by decide) (by decide) (by decide) (by decide) (by decide)]; exact h.2.1, h.2.2⟩
theorem kp_rfl {g : Nat → Int32} : kp g g := fun _ _ _ _ _ _ _ => rfl
theorem kp_trans {f g h : Nat → Int32} (a : kp f g) (c : kp g h) : kp f h := fun j x1 x2 x3 x4 x5 x6 => (c j x1 x2 x3 x4 x5 x6).trans (a j x1 x2 x3 x4 x5 x6)
/-- next() behind a token that was good -/
theorem m_nextS {M : pm_M} {n p : Nat} {b : Nat → Nat} (h : tpm M n b) (hp : p ≤ n) (h14 : M.1 29 0 14 = nI p) (h18 : M.1 29 0 18 = 0) : ∃ G, pm_Ev mMo_next [pm_r 29 0] M none (pm_set M 29 0 G) ∧ kp (M.1 29 0) G ∧ rS n b p G := by
  obtain ⟨G, k1, k2, k3, k4, k5⟩ := m_next h hp h14 h18
  exact ⟨G, k1, k2, k3, k4, k5⟩
theorem m_needs1 {M : pm_M} {x c : Int32} (h : ¬ x = 0 ∨ ¬ M.1 29 0 18 = 0) : pm_Ev mMo_needs [pm_r 29 0, pm_i x, pm_i c] M none M := by
  have hev := eMo_needs (a1 := x) (a2 := c) (M := M)
  unfold gMo_needs at hev
  by_cases q : x = 0
  · rw [if_pos q, if_neg (h.resolve_left (fun y => y q))] at hev
    exact hev
  · rw [if_neg q] at hev
    exact hev
theorem m_needs0 {M : pm_M} {c : Int32} (h : M.1 29 0 18 = 0) : pm_Ev mMo_needs [pm_r 29 0, pm_i 0, pm_i c] M none (pm_set M 29 0 (upd (upd (M.1 29 0) 18 c) 19 (M.1 29 0 15))) := by
  have hev := eMo_needs (a1 := 0) (a2 := c) (M := M)
  unfold gMo_needs at hev
  rw [if_pos rfl, if_pos h, pm_set_set, pm_set_at, pk_un (show 15 ≠ 18 by decide)] at hev
  exact hev
theorem kp_flt {g : Nat → Int32} {x y : Int32} : kp g (upd (upd g 18 x) 19 y) := fun j _ _ _ _ e f => by rw [pk_un f, pk_un e]
/-- a number that is asked for -/
def nS (n : Nat) (b : Nat → Nat) (o : (Nat × Nat) ⊕ Nat) (bd : Nat) : ((Nat × Nat) ⊕ Nat) × Nat := match o with
  | .inl f => (.inl f, 0)
  | .inr p => if tkf n b p 2 = 0 then (if tkV n b p ≤ bd then (.inr (tkE n b p), tkV n b p) else (.inl (3, tkS n b p), 0)) else (.inl (tkf n b p 2, tkS n b p), 0)
theorem m_num {M : pm_M} {n bd : Nat} {b : Nat → Nat} {o : (Nat × Nat) ⊕ Nat} (h : tpm M n b) (ho : rT n b o (M.1 29 0)) (hb : bd ≤ 99) : ∃ G, pm_Ev mMo_readNumber [pm_r 29 0, pm_i 0, pm_i (nI bd)] M (some (pm_i (nI (nS n b o bd).2))) (pm_set M 29 0 G) ∧ kp (M.1 29 0) G ∧ rT n b (nS n b o bd).1 G := by
  have bad : ∀ {c a : Nat}, rE c a (M.1 29 0) → pm_Ev mMo_readNumber [pm_r 29 0, pm_i 0, pm_i (nI bd)] M (some (pm_i (nI 0))) (pm_set M 29 0 (M.1 29 0)) := by
    intro c a hE
    obtain ⟨e1, e2⟩ := rE_pos hE
    rw [pm_set_self]
    refine pm_Sem_of (ls := [some (pm_r 29 0), some (pm_i 0), some (pm_i (nI bd)), none]) ok_mMo_readNumber (by decide +kernel) rfl (by decide) (Nat.le_of_ble_eq_true rfl) rfl ?_
    exact bMo_readNumber_0 (fun x => absurd x e1) (fun _ => bMo_readNumber_25 (fun x => absurd x e1) (fun _ => bMo_readNumber_49 (fun x => absurd x e1) (fun _ => bMo_readNumber_63 (bMo_readNumber_64 (m_next0 e2) (bMo_readNumber_69 ⟨rfl, rfl⟩)))))
  match o, ho with
  | .inl (c, a), ho => exact ⟨M.1 29 0, bad ho, kp_rfl, ho⟩
  | .inr p, ⟨hp, ho⟩ =>
    by_cases q4 : tkK n b p = 4
    · have e : nS n b (.inr p) bd = (.inl (1, tkS n b p), 0) := by
        unfold nS
        dsimp only
        rw [show tkf n b p 2 = 1 by unfold tkf; rw [if_pos q4], if_neg (by decide)]
      rw [e]
      exact ⟨M.1 29 0, bad (rS_4 ho q4), kp_rfl, rS_4 ho q4⟩
    · obtain ⟨r14, r16, r18, r17⟩ := ho.2.1 q4
      have hk := tkK_le (n := n) (p := p) (b := b)
      have start : ∀ {x : Int32} {M' : pm_M}, pm_G mMo_readNumber 7 [some (pm_r 29 0), some (pm_i 0), some (pm_i (nI bd)), none] [] M (pm_D (some (pm_i x)) M') → pm_Ev mMo_readNumber [pm_r 29 0, pm_i 0, pm_i (nI bd)] M (some (pm_i x)) M' := by
        intro x M' kk
        refine pm_Sem_of (ls := [some (pm_r 29 0), some (pm_i 0), some (pm_i (nI bd)), none]) ok_mMo_readNumber (by decide +kernel) rfl (by decide) (Nat.le_of_ble_eq_true rfl) rfl ?_
        exact bMo_readNumber_0 (fun _ => kk) (fun x => absurd r18 x)
      have late : ∀ {c : Nat}, 1 ≤ c → c ≤ 8 → ∀ pc9 : Unit, pm_G mMo_readNumber 49 [some (pm_r 29 0), some (pm_i 0), some (pm_i (nI bd)), none] [] (pm_set M 29 0 (upd (upd (M.1 29 0) 18 (nI c)) 19 (M.1 29 0 15))) (pm_D (some (pm_i (nI 0))) (pm_set M 29 0 (upd (upd (M.1 29 0) 18 (nI c)) 19 (M.1 29 0 15)))) := by
        intro c c1 c2 _
        have z : ¬ (pm_set M 29 0 (upd (upd (M.1 29 0) 18 (nI c)) 19 (M.1 29 0 15))).1 29 0 18 = 0 := by
          rw [pm_set_at, pk_un (by decide), pk_us]
          exact nI_ne0 (by omega) (by omega)
        have z2 : ¬ (pm_set M 29 0 (upd (upd (M.1 29 0) 18 (nI c)) 19 (M.1 29 0 15))).1 29 0 18 ≤ 0 := by
          rw [pm_set_at, pk_un (by decide), pk_us]
          exact nI_nle (by omega) (by omega)
        exact bMo_readNumber_49 (fun x => absurd x z) (fun _ => bMo_readNumber_63 (bMo_readNumber_64 (m_next0 z2) (bMo_readNumber_69 ⟨rfl, rfl⟩)))
      have flt : ∀ {c : Nat}, 1 ≤ c → c ≤ 8 → rE c (tkS n b p) (upd (upd (M.1 29 0) 18 (nI c)) 19 (M.1 29 0 15)) := fun c1 c2 => ⟨⟨c1, c2⟩, by rw [pk_un (by decide), pk_us], by rw [pk_us]; exact ho.1⟩
      by_cases q2 : tkK n b p = 2
      · have ef : tkf n b p 2 = 0 := by unfold tkf; rw [if_neg q4, if_pos q2]
        have e16 : M.1 29 0 16 = 2 := by rw [r16, q2]; rfl
        have h99 := tkV_le q2
        have ein : fMo_in (M.1 29 0 17).toInt64 (Int32.toInt64 0) (nI bd).toInt64 M = if tkV n b p ≤ bd then 1 else 0 := by
          rw [r17 q2, show fMo_in (nI (tkV n b p)).toInt64 (Int32.toInt64 0) (nI bd).toInt64 M = fWt_within (nI (tkV n b p)) 0 (nI bd) M from mo_in (nI (tkV n b p)) 0 (nI bd) M M]
          by_cases qv : tkV n b p ≤ bd
          · rw [if_pos qv, within_in (by omega) qv]
          · rw [if_neg qv]
            unfold fWt_within
            rw [if_neg (pm_pos4 (by omega)), if_pos ((pm_lt4 (by omega) (by omega)).mpr (by omega))]
        by_cases qv : tkV n b p ≤ bd
        · have e : nS n b (.inr p) bd = (.inr (tkE n b p), tkV n b p) := by
            unfold nS
            dsimp only
            rw [if_pos ef, if_pos qv]
          rw [e]
          obtain ⟨G, k1, k2, k3⟩ := m_nextS h (tkE_le hp) r14 r18
          refine ⟨G, start (bMo_readNumber_7 (fun _ => bMo_readNumber_16 (bMo_readNumber_21 (m_needs1 (Or.inl (by decide))) (bMo_readNumber_25 (fun _ => bMo_readNumber_32 eMo_in ?_) (fun x => absurd r18 x)))) (fun x => absurd e16 x)), k2, tkE_le hp, k3⟩
          rw [ein, if_pos qv]
          refine bMo_readNumber_45 (m_needs1 (Or.inl (by decide))) (bMo_readNumber_49 (fun _ => bMo_readNumber_56 ?_) (fun x => absurd r18 x))
          rw [r17 q2]
          exact bMo_readNumber_64 k1 (bMo_readNumber_69 ⟨rfl, rfl⟩)
        · have e : nS n b (.inr p) bd = (.inl (3, tkS n b p), 0) := by
            unfold nS
            dsimp only
            rw [if_pos ef, if_neg qv]
          rw [e]
          refine ⟨upd (upd (M.1 29 0) 18 (nI 3)) 19 (M.1 29 0 15), start (bMo_readNumber_7 (fun _ => bMo_readNumber_16 (bMo_readNumber_21 (m_needs1 (Or.inl (by decide))) (bMo_readNumber_25 (fun _ => bMo_readNumber_32 eMo_in ?_) (fun x => absurd r18 x)))) (fun x => absurd e16 x)), kp_flt, flt (by omega) (by omega)⟩
          rw [ein, if_neg qv]
          exact bMo_readNumber_45 (m_needs0 r18) (late (c := 3) (by omega) (by omega) ())
      · have ef : tkf n b p 2 = 2 := by unfold tkf; rw [if_neg q4, if_neg q2]
        have e16 : ¬ M.1 29 0 16 = 2 := by
          rw [r16]
          exact fun x => q2 ((pm_eq4 (a := tkK n b p) (b := 2) (by omega) (by omega)).mp x)
        have e : nS n b (.inr p) bd = (.inl (2, tkS n b p), 0) := by
          unfold nS
          dsimp only
          rw [ef, if_neg (by decide)]
        rw [e]
        refine ⟨upd (upd (M.1 29 0) 18 (nI 2)) 19 (M.1 29 0 15), start (bMo_readNumber_7 (fun x => absurd x e16) (fun _ => bMo_readNumber_20 (bMo_readNumber_21 (m_needs0 r18) (bMo_readNumber_25 (fun x => ?_) (fun _ => late (c := 2) (by omega) (by omega) ()))))), kp_flt, flt (by omega) (by omega)⟩
        rw [pm_set_at, pk_un (by decide), pk_us] at x
        exact absurd x (by decide)
def mx (x y : Int32) : Int32 := if x ≤ y then y else x
theorem rT_11 {n : Nat} {b : Nat → Nat} {o : (Nat × Nat) ⊕ Nat} {g : Nat → Int32} {j : Nat} {x : Int32} (hj : j < 13) (h : rT n b o g) : rT n b o (upd g j x) := by
  have u : ∀ i, 13 ≤ i → upd g j x i = g i := fun i hi => pk_un (by omega)
  match o, h with
  | .inl (c, a), h => exact ⟨h.1, by rw [u 18 (by omega)]; exact h.2.1, by rw [u 19 (by omega)]; exact h.2.2⟩
  | .inr p, h =>
    refine ⟨h.1, ?_⟩
    unfold rS
    rw [u 14 (by omega), u 15 (by omega), u 16 (by omega), u 17 (by omega), u 18 (by omega), u 19 (by omega)]
    exact h.2
theorem m_person {M : pm_M} {n : Nat} {b : Nat → Nat} {o : (Nat × Nat) ⊕ Nat} (h : tpm M n b) (ho : rT n b o (M.1 29 0)) : ∃ G, pm_Ev mMo_readPerson [pm_r 29 0] M (some (pm_i (nI (nS n b o 3).2))) (pm_set M 29 0 G) ∧ kp (upd (M.1 29 0) 11 (mx (nI (nS n b o 3).2) (M.1 29 0 11))) G ∧ rT n b (nS n b o 3).1 G := by
  obtain ⟨G, k1, k2, k3⟩ := m_num (bd := 3) h ho (by omega)
  have e11 : (pm_set M 29 0 G).1 29 0 11 = M.1 29 0 11 := by
    rw [pm_set_at]
    exact k2 11 (by decide) (by decide) (by decide) (by decide) (by decide) (by decide)
  refine ⟨upd G 11 (mx (nI (nS n b o 3).2) (M.1 29 0 11)), ?_, fun j x1 x2 x3 x4 x5 x6 => ?_, rT_11 (by omega) k3⟩
  · refine pm_Sem_of (ls := [some (pm_r 29 0), none]) ok_mMo_readPerson (by decide +kernel) rfl (by decide) (Nat.le_of_ble_eq_true rfl) rfl ?_
    unfold mx
    refine bMo_readPerson_0 k1 (bMo_readPerson_6 (fun c => bMo_readPerson_20 (bMo_readPerson_24 ⟨rfl, ?_⟩)) (fun c => bMo_readPerson_16 (bMo_readPerson_24 ⟨rfl, ?_⟩)))
    · rw [e11] at c ⊢
      rw [if_pos c, pm_set_set, pm_set_at]
    · rw [e11] at c
      rw [if_neg c, pm_set_set, pm_set_at]
  · by_cases q : j = 11
    · rw [q, pk_us, pk_us]
    · rw [pk_un q, pk_un q]
      exact k2 j x1 x2 x3 x4 x5 x6
