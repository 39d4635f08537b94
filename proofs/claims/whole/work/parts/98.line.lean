/-! a line of a text: what is told, and what a line does -/
abbrev tD : Type := (Nat → Int32) × Nat × Nat × Nat × Nat × (Nat → Int32)
def tPut (A : tD) (w : Nat) (v : Nat → Nat) : tD :=
  if w = 4 then (upd A.1 A.2.1 (nI (v 0)), A.2.1 + 1, A.2.2.1, A.2.2.2.1, A.2.2.2.2.1, A.2.2.2.2.2)
  else if w = 5 then (upd A.1 (24 + A.2.2.2.1) (nI (v 0)), A.2.1, A.2.2.1, A.2.2.2.1 + 1, A.2.2.2.2.1, A.2.2.2.2.2)
  else if w = 6 then (A.1, A.2.1, A.2.2.1, A.2.2.2.1, A.2.2.2.2.1 + 1, upd (upd A.2.2.2.2.2 (2 * A.2.2.2.2.1) (nI (v 0))) (2 * A.2.2.2.2.1 + 1) (nI (v 1)))
  else (upd (upd (upd (upd A.1 (4 + 5 * A.2.2.1) (nI w)) (5 + 5 * A.2.2.1) (nI (v 0))) (6 + 5 * A.2.2.1) (nI (v 1))) (7 + 5 * A.2.2.1) (nI (v 2)), A.2.1, A.2.2.1 + 1, A.2.2.2.1, A.2.2.2.2.1, A.2.2.2.2.2)
def tTold (A : tD) (w : Nat) : Nat := if w = 4 then A.2.1 else if w = 5 then A.2.2.2.1 else if w = 6 then A.2.2.2.2.1 else A.2.2.1
def tHm (w : Nat) : Nat := if w = 4 then 1 else if w = 5 then 1 else if w = 6 then 2 else 3
def tBd (w i : Nat) : Nat := if w = 4 then 99 else if w = 5 then 99 else if w = 6 then 3 else if i = 2 then 9 else 3
theorem tHm_at {w : Nat} {M : pm_M} (hw : w < 7) : fTe_howManyNumbers (nI w) M = nI (tHm w) ∧ tHm w ≤ 3 ∧ 1 ≤ tHm w := (by decide +kernel : ∀ w : Fin 7, fTe_howManyNumbers (nI w.val) (fun _ _ _ => 0, 0) = nI (tHm w.val) ∧ tHm w.val ≤ 3 ∧ 1 ≤ tHm w.val) ⟨w, hw⟩
theorem tBd_at {w i : Nat} {M : pm_M} (hw : w < 7) (hi : i < 3) : fTe_boundOf (nI w) (nI i) M = nI (tBd w i) ∧ tBd w i ≤ 99 := (by decide +kernel : ∀ w : Fin 7, ∀ i : Fin 3, fTe_boundOf (nI w.val) (nI i.val) (fun _ _ _ => 0, 0) = nI (tBd w.val i.val) ∧ tBd w.val i.val ≤ 99) ⟨w, hw⟩ ⟨i, hi⟩
/-- the fault of a token that was asked for -/
def tkf (n : Nat) (b : Nat → Nat) (p w : Nat) : Nat := if tkK n b p = 4 then 1 else if tkK n b p = w then 0 else 2
def tUp (v : Nat → Nat) (i x : Nat) : Nat → Nat := fun j => if j = i then x else v j
def nmO (n : Nat) (b : Nat → Nat) (w : Nat) : Nat → Nat → Nat → (Nat → Nat) → (Nat × Nat) ⊕ (Nat × (Nat → Nat))
  | 0, _, p, v => .inr (p, v)
  | m + 1, i, p, v => if tkf n b p 2 = 0 then (if tkV n b p ≤ tBd w i then nmO n b w m (i + 1) (tkE n b p) (tUp v i (tkV n b p)) else .inl (3, tkS n b p)) else .inl (tkf n b p 2, tkS n b p)
/-- numbers and the stop behind them -/
def lnR (n : Nat) (b : Nat → Nat) (p : Nat) (A : tD) (w : Nat) : (Nat × Nat) ⊕ (Nat × tD) := match nmO n b w (tHm w) 0 p (fun _ => 0) with
  | .inl c => .inl c
  | .inr (p', v) => if tkf n b p' 3 = 0 then .inr (tkE n b p', tPut A w v) else .inl (tkf n b p' 3, tkS n b p')
/-- a line: none (the end), a fault, or the place behind it and what is told then -/
def lnO (n : Nat) (b : Nat → Nat) (p : Nat) (A : tD) : Option ((Nat × Nat) ⊕ (Nat × tD)) :=
  if tkK n b p = 0 then none
  else if tkK n b p = 4 then some (.inl (1, tkS n b p))
  else if tkK n b p = 1 ∧ ¬ lw b (tkS n b p) (tkE n b p) = -4 then (if tTold A (lw b (tkS n b p) (tkE n b p)).toNatClampNeg < 4 then some (lnR n b (tkE n b p) A (lw b (tkS n b p) (tkE n b p)).toNatClampNeg) else some (.inl (5, tkS n b p)))
  else some (.inl (2, tkS n b p))
theorem lw_in {b : Nat → Nat} {s e : Nat} (h : ¬ lw b s e = -4) : ∃ w, w < 7 ∧ lw b s e = nI w := by
  rw [lw_eq] at h ⊢
  by_cases q0 : isW b s e 0 = true
  · exact ⟨0, by omega, by rw [if_pos q0]; rfl⟩
  · rw [if_neg q0] at h ⊢
    by_cases q1 : isW b s e 1 = true
    · exact ⟨1, by omega, by rw [if_pos q1]; rfl⟩
    · rw [if_neg q1] at h ⊢
      by_cases q2 : isW b s e 2 = true
      · exact ⟨2, by omega, by rw [if_pos q2]; rfl⟩
      · rw [if_neg q2] at h ⊢
        by_cases q3 : isW b s e 3 = true
        · exact ⟨3, by omega, by rw [if_pos q3]; rfl⟩
        · rw [if_neg q3] at h ⊢
          by_cases q4 : isW b s e 4 = true
          · exact ⟨4, by omega, by rw [if_pos q4]; rfl⟩
          · rw [if_neg q4] at h ⊢
            by_cases q5 : isW b s e 5 = true
            · exact ⟨5, by omega, by rw [if_pos q5]; rfl⟩
            · rw [if_neg q5] at h ⊢
              by_cases q6 : isW b s e 6 = true
              · exact ⟨6, by omega, by rw [if_pos q6]; rfl⟩
              · rw [if_neg q6] at h
                exact absurd rfl h
theorem tkE_le {n p : Nat} {b : Nat → Nat} (hp : p ≤ n) : tkE n b p ≤ n := by
  have := tkS_le (b := b) hp
  unfold tkE
  split
  · omega
  · split
    · omega
    · split
      · exact run_le (by omega)
      · exact run_le (by omega)
theorem tkE_ge {n p : Nat} {b : Nat → Nat} : tkS n b p ≤ tkE n b p := by
  unfold tkE
  split
  · omega
  · split
    · omega
    · split
      · exact run_ge
      · exact run_ge
/-- a name and a stop have a byte at least -/
theorem tkE_gt {n p : Nat} {b : Nat → Nat} (h : tkK n b p = 1 ∨ tkK n b p = 3) : p < tkE n b p := by
  have h1 : p ≤ tkS n b p := tkS_ge
  unfold tkK at h
  unfold tkE
  by_cases q1 : n ≤ tkS n b p
  · rw [if_pos q1] at h
    omega
  · rw [if_neg q1] at h ⊢
    by_cases q2 : b (tkS n b p) = 59
    · rw [if_pos q2]
      omega
    · rw [if_neg q2] at h ⊢
      by_cases q3 : tx_lt b (tkS n b p) = true
      · rw [if_pos q3, run_yes (by omega) q3]
        have : tkS n b p + 1 ≤ tx_run (tx_lt b) n (tkS n b p + 1) := run_ge
        omega
      · rw [if_neg q3] at h
        split at h <;> omega
/-! what is told, in the class -/
def cD (M : pm_M) (A : tD) : Prop := (M.1 4 1 0 = nI A.2.1 ∧ M.1 4 1 1 = nI A.2.2.1 ∧ M.1 4 1 2 = 0) ∧ (∀ p, p < A.2.1 → M.1 5 1 p = A.1 p) ∧ (∀ t w, t < A.2.2.1 → w < 4 → M.1 6 1 (4 * t + w) = A.1 (4 + 5 * t + w)) ∧ (∀ t, t < 4 → M.1 7 1 t = -4) ∧ (∀ z, z < 4 → M.1 8 1 z = A.1 (24 + z)) ∧ (∀ z, z < 4 → M.1 9 1 z = -4) ∧ (M.1 23 0 3 = nI A.2.2.2.1 ∧ M.1 23 0 4 = nI A.2.2.2.2.1) ∧ ∀ i, i < A.2.2.2.2.1 → M.1 25 0 i = A.2.2.2.2.2 (2 * i) ∧ M.1 26 0 i = A.2.2.2.2.2 (2 * i + 1)
def aV (A : tD) : Prop := (A.2.1 ≤ 4 ∧ A.2.2.1 ≤ 4 ∧ A.2.2.2.1 ≤ 4 ∧ A.2.2.2.2.1 ≤ 4) ∧ (∀ p, p < A.2.1 → ∃ v, v ≤ 99 ∧ A.1 p = nI v) ∧ (∀ t, t < A.2.2.1 → ∃ kd a c fe, kd < 4 ∧ a < 4 ∧ c < 4 ∧ fe ≤ 9 ∧ A.1 (4 + 5 * t) = nI kd ∧ A.1 (5 + 5 * t) = nI a ∧ A.1 (6 + 5 * t) = nI c ∧ A.1 (7 + 5 * t) = nI fe) ∧ (∀ z, z < 4 → ∃ am, am ≤ 99 ∧ A.1 (24 + z) = nI am) ∧ (∀ t, t < 4 → A.1 (8 + 5 * t) = -4) ∧ (∀ z, z < 4 → A.1 (28 + z) = -4) ∧ A.1 32 = 0 ∧ ∀ i, i < A.2.2.2.2.1 → (∃ x, x < 4 ∧ A.2.2.2.2.2 (2 * i) = nI x) ∧ ∃ y, y < 4 ∧ A.2.2.2.2.2 (2 * i + 1) = nI y
def cfx (a k : Nat) : Bool := decide (a = 21) || (decide (23 ≤ a) && decide (a ≤ 26)) || (decide (4 ≤ a) && decide (a ≤ 11) && decide (k = 1))
def cf (M M' : pm_M) : Prop := ∀ a k, cfx a k = false → M'.1 a k = M.1 a k
theorem cf_rfl {M : pm_M} : cf M M := fun _ _ _ => rfl
theorem cf_trans {M M' M'' : pm_M} (h : cf M M') (h' : cf M' M'') : cf M M'' := fun a k q => (h' a k q).trans (h a k q)
theorem cf_set {M M' : pm_M} {t k : Nat} {f : Nat → Int32} (h : cf M M') (ht : cfx t k = true) : cf M (pm_set M' t k f) := fun a c q => by
  rw [pm_set_get, if_neg]
  · exact h a c q
  · rintro ⟨rfl, rfl⟩
    rw [ht] at q
    cases q
theorem cf_tch {L : List Nat} {M M' : pm_M} (h : tch L M M') (hL : ∀ x ∈ L, x = 21 ∨ 23 ≤ x ∧ x ≤ 26) : cf M M' := fun a k q => h a k (fun x => by
  have := hL a x
  unfold cfx at q
  simp at q
  omega)
theorem cD_same {M M' : pm_M} {A : tD} (h : cD M A) (e4 : ∀ a, 4 ≤ a → a ≤ 9 → M'.1 a 1 = M.1 a 1) (e3 : M'.1 23 0 3 = M.1 23 0 3) (e9 : M'.1 23 0 4 = M.1 23 0 4) (e5 : M'.1 25 0 = M.1 25 0) (e6 : M'.1 26 0 = M.1 26 0) : cD M' A := by
  unfold cD
  rw [e4 4 (by omega) (by omega), e4 5 (by omega) (by omega), e4 6 (by omega) (by omega), e4 7 (by omega) (by omega), e4 8 (by omega) (by omega), e4 9 (by omega) (by omega), e3, e9, e5, e6]
  exact h
theorem addT_eq {M : pm_M} {k T : Nat} {a1 a2 a3 a4 : Int32} (hT : T < 4) (h : M.1 4 k 1 = nI T) : gWh_addTicket k a1 a2 a3 a4 M = pm_set (pm_set M 6 k (upd (upd (upd (upd (M.1 6 k) (4 * T) a1) (4 * T + 1) a2) (4 * T + 2) a3) (4 * T + 3) a4)) 4 k (upd (M.1 4 k) 1 (nI (T + 1))) ∧ sWh_addTicket k a1 a2 a3 a4 M := by
  have le : ¬ (4 : Int32) ≤ M.1 4 k 1 := by
    rw [h]
    exact fun q => by have := (pm_le4 (a := 4) (b := T) (by omega) (by omega)).mp q; omega
  have r : ∀ (x y z : Int32) (M' : pm_M), (gWh_setTrait k x y z M').1 4 k = M'.1 4 k := fun _ _ _ _ => rfl
  have i0 : Int32.toNatClampNeg ((4 * nI T) + 0) = 4 * T := (re_ix hT (j := 0) (by omega)).1
  have i1 : Int32.toNatClampNeg ((4 * nI T) + 1) = 4 * T + 1 := (re_ix hT (j := 1) (by omega)).1
  have i2 : Int32.toNatClampNeg ((4 * nI T) + 2) = 4 * T + 2 := (re_ix hT (j := 2) (by omega)).1
  have i3 : Int32.toNatClampNeg ((4 * nI T) + 3) = 4 * T + 3 := (re_ix hT (j := 3) (by omega)).1
  constructor
  · unfold gWh_addTicket
    rw [if_neg le]
    simp only [r, h, nI_1]
    unfold gWh_setTrait
    simp only [pm_set_set, pm_set_at, i0, i1, i2, i3]
  · unfold sWh_addTicket
    refine ⟨fun _ => trivial, fun _ => ?_⟩
    simp only [r, h]
    exact ⟨sWh_all (M := M) (k := k) hT (by simp), sWh_all (M := M) (k := k) hT (by simp), sWh_all (M := M) (k := k) hT (by simp), sWh_all (M := M) (k := k) hT (by simp)⟩
theorem c_put {M : pm_M} {A : tD} {w : Nat} {v : Nat → Nat} (hw : w < 7) (h44 : A.2.1 ≤ 4 ∧ A.2.2.1 ≤ 4) (hd : cD M A) (hr : tTold A w < 4) (hv : ∀ i, i < tHm w → M.1 24 0 i = nI (v i)) : ∃ M', pm_Ev mTe_put [pm_r 23 0, pm_i (nI w), pm_r 4 1] M none M' ∧ cD M' (tPut A w v) ∧ cf M M' ∧ M'.1 21 0 = M.1 21 0 ∧ M'.1 22 0 = M.1 22 0 ∧ M'.1 23 0 0 = M.1 23 0 0 := by
  obtain ⟨f, P, T, Z, D, g⟩ := A
  have hP4 : P ≤ 4 := h44.1
  have hT4 : T ≤ 4 := h44.2
  obtain ⟨⟨d1, d2, d3⟩, d4, d5, d6, d7, d8, ⟨d9, d10⟩, d11⟩ := hd
  dsimp only at d1 d2 d4 d5 d7 d9 d10 d11
  have z0 : Int32.toNatClampNeg 0 = 0 := by decide
  have z1 : Int32.toNatClampNeg 1 = 1 := by decide
  have z2 : Int32.toNatClampNeg 2 = 2 := by decide
  have v3 : vp_in 0 3 ∧ vp_in 1 3 ∧ vp_in 2 3 := ⟨pm_vin (a := 0) (by decide) (by decide), pm_vin (a := 1) (by decide) (by decide), pm_vin (a := 2) (by decide) (by decide)⟩
  by_cases q4 : w = 4
  · subst q4
    have hP : P < 4 := hr
    have v0 : M.1 24 0 0 = nI (v 0) := hv 0 (by decide)
    have le : ¬ (4 : Int32) ≤ M.1 4 1 0 := by
      rw [d1]
      exact fun q => by have := (pm_le4 (a := 4) (b := P) (by omega) (by omega)).mp q; omega
    have hev := eTe_put (a1 := nI 4) (k2 := 1) (M := M) ⟨fun _ => ⟨v3.1, fun _ => trivial, fun _ => by rw [d1]; exact pm_vin hP (by omega)⟩, fun q => absurd rfl q⟩
    unfold gTe_put gWh_addPerson at hev
    rw [if_pos (show nI 4 = 4 from rfl), if_neg le, z0, v0, d1, pm_cl4 (by omega), nI_1] at hev
    refine ⟨_, hev, ?_, cf_set (cf_set cf_rfl rfl) rfl, rfl, rfl, rfl⟩
    generalize hM' : pm_set (pm_set M 5 1 (upd (M.1 5 1) P (nI (v 0)))) 4 1 (upd (M.1 4 1) 0 (nI (P + 1))) = M'
    have e4 : M'.1 4 1 = upd (M.1 4 1) 0 (nI (P + 1)) := by rw [← hM', pm_set_at]
    have e5 : M'.1 5 1 = upd (M.1 5 1) P (nI (v 0)) := by rw [← hM', pm_set_ne _ _ (by decide), pm_set_at]
    have e : ∀ a c, a ≠ 4 → a ≠ 5 → M'.1 a c = M.1 a c := fun a c x y => by rw [← hM', pm_set_ne _ _ (Ne.symm x), pm_set_ne _ _ (Ne.symm y)]
    unfold tPut cD
    rw [if_pos rfl]
    dsimp only
    rw [e4, e5, e 6 1 (by decide) (by decide), e 7 1 (by decide) (by decide), e 8 1 (by decide) (by decide), e 9 1 (by decide) (by decide), e 23 0 (by decide) (by decide), e 25 0 (by decide) (by decide), e 26 0 (by decide) (by decide)]
    refine ⟨⟨pk_us, by rw [pk_un (by decide)]; exact d2, by rw [pk_un (by decide)]; exact d3⟩, fun p hp => ?_, fun t w ht hw => ?_, d6, fun z hz => ?_, d8, ⟨d9, d10⟩, d11⟩
    · by_cases q : p = P
      · subst q
        rw [pk_us, pk_us]
      · rw [pk_un q, pk_un q]
        exact d4 p (by omega)
    · rw [pk_un (by omega)]
      exact d5 t w ht hw
    · rw [pk_un (by omega)]
      exact d7 z hz
  · by_cases q5 : w = 5
    · subst q5
      have hZ : Z < 4 := hr
      have v0 : M.1 24 0 0 = nI (v 0) := hv 0 (by decide)
      have le : ¬ (4 : Int32) ≤ M.1 23 0 3 := by
        rw [d9]
        exact fun q => by have := (pm_le4 (a := 4) (b := Z) (by omega) (by omega)).mp q; omega
      have hev := eTe_put (a1 := nI 5) (k2 := 1) (M := M) ⟨fun q => absurd q (by decide), fun _ => ⟨fun _ => ⟨fun q => absurd q le, fun _ => ⟨v3.1, by rw [d9]; exact pm_vin hZ (by omega)⟩⟩, fun q => absurd rfl q⟩⟩
      unfold gTe_put at hev
      rw [if_neg (show ¬ nI 5 = 4 by decide), if_pos (show nI 5 = 5 from rfl), if_neg le, z0, v0, d9, pm_cl4 (by omega), nI_1] at hev
      refine ⟨_, hev, ?_, cf_set (cf_set cf_rfl rfl) rfl, rfl, rfl, rfl⟩
      generalize hM' : pm_set (pm_set M 8 1 (upd (M.1 8 1) Z (nI (v 0)))) 23 0 (upd (M.1 23 0) 3 (nI (Z + 1))) = M'
      have e4 : M'.1 23 0 = upd (M.1 23 0) 3 (nI (Z + 1)) := by rw [← hM', pm_set_at]
      have e5 : M'.1 8 1 = upd (M.1 8 1) Z (nI (v 0)) := by rw [← hM', pm_set_ne _ _ (by decide), pm_set_at]
      have e : ∀ a c, a ≠ 23 → a ≠ 8 → M'.1 a c = M.1 a c := fun a c x y => by rw [← hM', pm_set_ne _ _ (Ne.symm x), pm_set_ne _ _ (Ne.symm y)]
      unfold tPut cD
      rw [if_neg (by decide), if_pos rfl]
      dsimp only
      rw [e4, e5, e 4 1 (by decide) (by decide), e 5 1 (by decide) (by decide), e 6 1 (by decide) (by decide), e 7 1 (by decide) (by decide), e 9 1 (by decide) (by decide), e 25 0 (by decide) (by decide), e 26 0 (by decide) (by decide)]
      refine ⟨⟨d1, d2, d3⟩, fun p hp => ?_, fun t w ht hw => ?_, d6, fun z hz => ?_, d8, ⟨pk_us, by rw [pk_un (by decide)]; exact d10⟩, d11⟩
      · rw [pk_un (by omega)]
        exact d4 p hp
      · rw [pk_un (by omega)]
        exact d5 t w ht hw
      · by_cases q : z = Z
        · subst q
          rw [pk_us, pk_us]
        · rw [pk_un q, pk_un (by omega)]
          exact d7 z hz
    · by_cases q6 : w = 6
      · subst q6
        have hD : D < 4 := hr
        have v0 : M.1 24 0 0 = nI (v 0) := hv 0 (by decide)
        have v1 : M.1 24 0 1 = nI (v 1) := hv 1 (by decide)
        have le : ¬ (4 : Int32) ≤ M.1 23 0 4 := by
          rw [d10]
          exact fun q => by have := (pm_le4 (a := 4) (b := D) (by omega) (by omega)).mp q; omega
        have vD : vp_in (M.1 23 0 4) 4 := by rw [d10]; exact pm_vin hD (by omega)
        have hev := eTe_put (a1 := nI 6) (k2 := 1) (M := M) ⟨fun q => absurd q (by decide), fun _ => ⟨fun q => absurd q (by decide), fun _ => ⟨fun _ => ⟨fun q => absurd q le, fun _ => ⟨v3.1, vD, v3.2.1, vD⟩⟩, fun q => absurd rfl q⟩⟩⟩
        unfold gTe_put gTe_put_59 at hev
        rw [if_neg (show ¬ nI 6 = 4 by decide), if_neg (show ¬ nI 6 = 5 by decide), if_pos (show nI 6 = 6 from rfl), if_neg le, z0, z1, v0, v1, d10, pm_cl4 (by omega), nI_1] at hev
        refine ⟨_, hev, ?_, cf_set (cf_set (cf_set cf_rfl rfl) rfl) rfl, rfl, rfl, rfl⟩
        generalize hM' : pm_set (pm_set (pm_set M 25 0 (upd (M.1 25 0) D (nI (v 0)))) 26 0 (upd (M.1 26 0) D (nI (v 1)))) 23 0 (upd (M.1 23 0) 4 (nI (D + 1))) = M'
        have e4 : M'.1 23 0 = upd (M.1 23 0) 4 (nI (D + 1)) := by rw [← hM', pm_set_at]
        have e5 : M'.1 25 0 = upd (M.1 25 0) D (nI (v 0)) := by rw [← hM', pm_set_ne _ _ (by decide), pm_set_ne _ _ (by decide), pm_set_at]
        have e6 : M'.1 26 0 = upd (M.1 26 0) D (nI (v 1)) := by rw [← hM', pm_set_ne _ _ (by decide), pm_set_at]
        have e : ∀ a c, a ≠ 23 → a ≠ 25 → a ≠ 26 → M'.1 a c = M.1 a c := fun a c x y z => by rw [← hM', pm_set_ne _ _ (Ne.symm x), pm_set_ne _ _ (Ne.symm z), pm_set_ne _ _ (Ne.symm y)]
        unfold tPut cD
        rw [if_neg (by decide), if_neg (by decide), if_pos rfl]
        dsimp only
        rw [e4, e5, e6, e 4 1 (by decide) (by decide) (by decide), e 5 1 (by decide) (by decide) (by decide), e 6 1 (by decide) (by decide) (by decide), e 7 1 (by decide) (by decide) (by decide), e 8 1 (by decide) (by decide) (by decide), e 9 1 (by decide) (by decide) (by decide)]
        refine ⟨⟨d1, d2, d3⟩, d4, d5, d6, d7, d8, ⟨by rw [pk_un (by decide)]; exact d9, pk_us⟩, fun i hi => ?_⟩
        by_cases q : i = D
        · subst q
          rw [pk_us, pk_us, pk_us, pk_un (by omega), pk_us]
          exact ⟨rfl, rfl⟩
        · rw [pk_un q, pk_un q, pk_un (by omega), pk_un (by omega), pk_un (by omega), pk_un (by omega)]
          exact d11 i (by omega)
      · have hT : T < 4 := by
          unfold tTold at hr
          rw [if_neg q4, if_neg q5, if_neg q6] at hr
          exact hr
        have h3 : tHm w = 3 := by
          unfold tHm
          rw [if_neg q4, if_neg q5, if_neg q6]
        have v0 : M.1 24 0 0 = nI (v 0) := hv 0 (by omega)
        have v1 : M.1 24 0 1 = nI (v 1) := hv 1 (by omega)
        have v2 : M.1 24 0 2 = nI (v 2) := hv 2 (by omega)
        obtain ⟨t1, t2⟩ := addT_eq (a1 := nI w) (a2 := nI (v 0)) (a3 := nI (v 1)) (a4 := nI (v 2)) hT d2
        have n4 : ¬ nI w = 4 := fun x => q4 ((pm_eq4 (a := w) (b := 4) (by omega) (by omega)).mp x)
        have n5 : ¬ nI w = 5 := fun x => q5 ((pm_eq4 (a := w) (b := 5) (by omega) (by omega)).mp x)
        have n6 : ¬ nI w = 6 := fun x => q6 ((pm_eq4 (a := w) (b := 6) (by omega) (by omega)).mp x)
        have n3 : ¬ fWt_within (nI w) 0 3 M = 0 := by
          rw [show fWt_within (nI w) 0 3 M = 1 from within_in (n := 3) (by omega) (by omega)]
          decide
        have s116 : sTe_put_116 (nI w) 1 M := ⟨fun _ => trivial, fun _ => ⟨v3.1, v3.2.1, v3.2.2, by rw [z0, z1, z2, v0, v1, v2]; exact t2⟩⟩
        have hev := eTe_put (a1 := nI w) (k2 := 1) (M := M) ⟨fun q => absurd q n4, fun _ => ⟨fun q => absurd q n5, fun _ => ⟨fun q => absurd q n6, fun _ => s116⟩⟩⟩
        unfold gTe_put gTe_put_59 gTe_put_116 at hev
        rw [if_neg n4, if_neg n5, if_neg n6, if_neg n3, z0, z1, z2, v0, v1, v2, t1] at hev
        refine ⟨_, hev, ?_, cf_set (cf_set cf_rfl rfl) rfl, rfl, rfl, rfl⟩
        generalize hM' : pm_set (pm_set M 6 1 (upd (upd (upd (upd (M.1 6 1) (4 * T) (nI w)) (4 * T + 1) (nI (v 0))) (4 * T + 2) (nI (v 1))) (4 * T + 3) (nI (v 2)))) 4 1 (upd (M.1 4 1) 1 (nI (T + 1))) = M'
        have e4 : M'.1 4 1 = upd (M.1 4 1) 1 (nI (T + 1)) := by rw [← hM', pm_set_at]
        have e5 : M'.1 6 1 = upd (upd (upd (upd (M.1 6 1) (4 * T) (nI w)) (4 * T + 1) (nI (v 0))) (4 * T + 2) (nI (v 1))) (4 * T + 3) (nI (v 2)) := by rw [← hM', pm_set_ne _ _ (by decide), pm_set_at]
        have e : ∀ a c, a ≠ 4 → a ≠ 6 → M'.1 a c = M.1 a c := fun a c x y => by rw [← hM', pm_set_ne _ _ (Ne.symm x), pm_set_ne _ _ (Ne.symm y)]
        have u : ∀ y, y < 4 + 5 * T ∨ 8 + 5 * T ≤ y → upd (upd (upd (upd f (4 + 5 * T) (nI w)) (5 + 5 * T) (nI (v 0))) (6 + 5 * T) (nI (v 1))) (7 + 5 * T) (nI (v 2)) y = f y := fun y hy => by
          rw [pk_un (by omega), pk_un (by omega), pk_un (by omega), pk_un (by omega)]
        unfold tPut cD
        rw [if_neg q4, if_neg q5, if_neg q6]
        dsimp only
        rw [e4, e5, e 5 1 (by decide) (by decide), e 7 1 (by decide) (by decide), e 8 1 (by decide) (by decide), e 9 1 (by decide) (by decide), e 23 0 (by decide) (by decide), e 25 0 (by decide) (by decide), e 26 0 (by decide) (by decide)]
        refine ⟨⟨by rw [pk_un (by decide)]; exact d1, pk_us, by rw [pk_un (by decide)]; exact d3⟩, fun p hp => ?_, fun t w' ht hw' => ?_, d6, fun z hz => ?_, d8, ⟨d9, d10⟩, d11⟩
        · rw [u p (by omega)]
          exact d4 p hp
        · by_cases q : t = T
          · subst q
            rcases (show w' = 0 ∨ w' = 1 ∨ w' = 2 ∨ w' = 3 by omega) with rfl | rfl | rfl | rfl
            · rw [pk_un (by omega), pk_un (by omega), pk_un (by omega), Nat.add_zero, pk_us, Nat.add_zero, pk_un (by omega), pk_un (by omega), pk_un (by omega), pk_us]
            · rw [pk_un (by omega), pk_un (by omega), pk_us, pk_un (by omega), pk_un (by omega), show 4 + 5 * t + 1 = 5 + 5 * t by omega, pk_us]
            · rw [pk_un (by omega), pk_us, pk_un (by omega), show 4 + 5 * t + 2 = 6 + 5 * t by omega, pk_us]
            · rw [pk_us, show 4 + 5 * t + 3 = 7 + 5 * t by omega, pk_us]
          · rw [u _ (by omega), pk_un (by omega), pk_un (by omega), pk_un (by omega), pk_un (by omega)]
            exact d5 t w' (by omega) hw'
        · rw [u _ (by omega)]
          exact d7 z hz
