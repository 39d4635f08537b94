/-! numbers of the reference: in, common, told -/
theorem mo_in (x lo hi : Int32) (M M' : pm_M) : fMo_in x.toInt64 lo.toInt64 hi.toInt64 M = fWt_within x lo hi M' := by
  have e : ∀ a b : Int32, (a.toInt64 < b.toInt64) ↔ a < b := fun a b => by rw [Int64.lt_iff_toInt_lt, Int32.lt_iff_toInt_lt, Int32.toInt_toInt64, Int32.toInt_toInt64]
  unfold fMo_in fWt_within
  simp only [lg_cmp_lt, lg_cmp_gt, e]
theorem mo_isPart (a : Int32) (M M' : pm_M) : fMo_isPart a M = fWt_isPart a M' := mo_in a 0 1 M M'
theorem mo_end (a : Int32) (M M' : pm_M) : fMo_in a.toInt64 (-999) 999 M = fWt_isEnd a M' := mo_in a (-999) 999 M M'
theorem mo_hi {P : Nat} (hP : P ≤ 4) : (nI P - 1).toInt = (P : Int) - 1 := (by decide +kernel : ∀ P : Fin 5, (nI P.val - 1).toInt = (P.val : Int) - 1) ⟨P, by omega⟩
theorem within_good {P p : Nat} {M : pm_M} (hP : P ≤ 4) (hp : p < P) : fWt_within (nI p) 0 (nI P - 1) M = 1 := by
  unfold fWt_within
  rw [if_neg (pm_pos4 (by omega)), if_neg]
  rw [Int32.lt_iff_toInt_lt, mo_hi hP, nI_toInt (by omega)]
  omega
theorem within_bad {P : Nat} {a : Int32} {M : pm_M} (hP : P ≤ 4) (h : ¬ ∃ t, t < P ∧ a = nI t) : fWt_within a 0 (nI P - 1) M = 0 := by
  unfold fWt_within
  by_cases h0 : a < 0
  · rw [if_pos h0]
  · rw [if_neg h0, if_pos]
    have := pm_nless (by omega) h h0
    rw [Int32.le_iff_toInt_le, nI_toInt (by omega)] at this
    rw [Int32.lt_iff_toInt_lt, mo_hi hP]
    omega
theorem moP_good {M : pm_M} {P p : Nat} (h : M.1 29 0 3 = nI P) (hP : P ≤ 4) (hp : p < P) : fMo_isPerson (nI p) M = 1 := by
  unfold fMo_isPerson
  rw [h]
  exact (mo_in (nI p) 0 (nI P - 1) M M).trans (within_good hP hp)
theorem moP_bad {M : pm_M} {P : Nat} {a : Int32} (h : M.1 29 0 3 = nI P) (hP : P ≤ 4) (hb : ¬ ∃ t, t < P ∧ a = nI t) : fMo_isPerson a M = 0 := by
  unfold fMo_isPerson
  rw [h]
  exact (mo_in a 0 (nI P - 1) M M).trans (within_bad hP hb)
theorem moT_good {M : pm_M} {T t : Nat} (h : M.1 29 0 4 = nI T) (hT : T ≤ 4) (ht : t < T) : fMo_isTicket (nI t) M = 1 := by
  unfold fMo_isTicket
  rw [h]
  exact (mo_in (nI t) 0 (nI T - 1) M M).trans (within_good hT ht)
theorem moT_bad {M : pm_M} {T : Nat} {a : Int32} (h : M.1 29 0 4 = nI T) (hT : T ≤ 4) (hb : ¬ ∃ t, t < T ∧ a = nI t) : fMo_isTicket a M = 0 := by
  unfold fMo_isTicket
  rw [h]
  exact (mo_in a 0 (nI T - 1) M M).trans (within_bad hT hb)
def fMo_common (b0 b2 : Int64) (_M : pm_M) : Int64 := lN (Nat.gcd b0.toInt.natAbs b2.toInt.natAbs)
def sMo_common (b0 b2 : Int64) (_M : pm_M) : Prop := (∃ A : Nat, A < 2 ^ 62 ∧ b0 = lN A) ∧ b2.toInt.natAbs < 2 ^ 62
theorem eMo_common {b0 b2 : Int64} {M : pm_M} (hs : sMo_common b0 b2 M) : pm_Ev mMo_common [pm_l b0, pm_l b2] M (some (pm_l (fMo_common b0 b2 M))) M := by
  refine pm_Sem_of (ls := [some (pm_l b0), none, some (pm_l b2), none, none, none, none, none, none, none]) ok_mMo_common (by decide +kernel) rfl (by decide) (Nat.le_of_ble_eq_true rfl) rfl ?_
  obtain ⟨⟨A, hA, rfl⟩, hB⟩ := hs
  unfold fMo_common
  rw [pk_lT (show A < 2 ^ 63 by omega), Int.natAbs_natCast]
  generalize hG : Nat.gcd A b2.toInt.natAbs = G
  have loop : ∀ y x, x < 2 ^ 62 → y < 2 ^ 62 → Nat.gcd x y = G → pm_G mMo_common 17 [some (pm_l (lN A)), none, some (pm_l b2), none, some (pm_l (lN x)), none, some (pm_l (lN y)), none, none, none] [] M (pm_D (some (pm_l (lN G))) M) := by
    intro y
    induction y using Nat.strongRecOn with
    | ind y ih =>
      intro x hx hy h
      by_cases h0 : y = 0
      · subst h0
        rw [Nat.gcd_zero_right] at h
        subst h
        exact bMo_common_17 (fun _ => bMo_common_42 ⟨rfl, rfl⟩) (fun q => absurd ((lg_cmp_eq _ _).mpr rfl) q)
      · have hr : x % y < y := Nat.mod_lt _ (by omega)
        have hne : ¬ lN y = 0 := fun q => h0 ((pk_lEQ (a := y) (b := 0) (by omega) (by omega)).mp q)
        refine bMo_common_17 (fun q => absurd ((lg_cmp_eq _ _).mp q) hne) (fun _ => bMo_common_24 hne ?_)
        rw [pk_lRem (by omega) (by omega) (by omega)]
        exact pm_G_le (ls' := [some (pm_l (lN A)), none, some (pm_l b2), none, some (pm_l (lN y)), none, some (pm_l (lN (x % y))), none, none, none]) ⟨Or.inr rfl, Or.inl rfl, Or.inr rfl, Or.inl rfl, Or.inr rfl, Or.inl rfl, Or.inr rfl, Or.inl rfl, Or.inl rfl, Or.inl rfl, trivial⟩ (ih (x % y) hr y (by omega) (by omega) ((pm_gcd x y).symm.trans h))
  refine bMo_common_0 (fun q => bMo_common_14 (bMo_common_15 ?_)) (fun q => bMo_common_9 (bMo_common_15 ?_))
  · rw [lg_cmp_ge] at q
    have e : b2 = lN b2.toInt.natAbs := by
      apply Int64.toInt_inj.mp
      rw [pk_lT (by omega)]
      have q : (0 : Int64).toInt ≤ b2.toInt := Int64.le_iff_toInt_le.mp q
      have z : (0 : Int64).toInt = 0 := by decide
      omega
    have := loop b2.toInt.natAbs A hA hB hG
    rw [← e] at this
    exact this
  · rw [lg_cmp_ge] at q
    have e : -b2 = lN b2.toInt.natAbs := by
      apply Int64.toInt_inj.mp
      rw [pk_lT (by omega), Int64.toInt_neg]
      have q : ¬ (0 : Int64).toInt ≤ b2.toInt := fun h => q (Int64.le_iff_toInt_le.mpr h)
      have z : (0 : Int64).toInt = 0 := by decide
      rw [Int.bmod_eq_of_le (by omega) (by omega)]
      omega
    have := loop b2.toInt.natAbs A hA hB hG
    rw [← e] at this
    exact this
def fMo_told (b0 b2 : Int64) (a4 : Int32) (M : pm_M) : Int64 := if a4 = 0 then b0 / fMo_common b2 b0 M else b2 / fMo_common b2 b0 M
def sMo_told (b0 b2 : Int64) (_a4 : Int32) (M : pm_M) : Prop := sMo_common b2 b0 M ∧ ¬ fMo_common b2 b0 M = 0
theorem eMo_told {b0 b2 : Int64} {a4 : Int32} {M : pm_M} (hs : sMo_told b0 b2 a4 M) : pm_Ev mMo_told [pm_l b0, pm_l b2, pm_i a4] M (some (pm_l (fMo_told b0 b2 a4 M))) M := by
  refine pm_Sem_of (ls := [some (pm_l b0), none, some (pm_l b2), none, some (pm_i a4), none, none]) ok_mMo_told (by decide +kernel) rfl (by decide) (Nat.le_of_ble_eq_true rfl) rfl ?_
  unfold fMo_told
  refine bMo_told_0 (eMo_common hs.1) (bMo_told_5 (fun q => bMo_told_12 hs.2 (bMo_told_23 ?_)) (fun q => bMo_told_19 hs.2 (bMo_told_23 ?_)))
  · rw [if_pos q]
    exact ⟨rfl, rfl⟩
  · rw [if_neg q]
    exact ⟨rfl, rfl⟩
/-! lowest terms -/
theorem fracN {a c B D : Nat} (hB : 0 < B) (hD : 0 < D) (h : a * D = c * B) : a / Nat.gcd a B = c / Nat.gcd c D ∧ B / Nat.gcd a B = D / Nat.gcd c D := by
  have g1 : 0 < Nat.gcd a B := Nat.gcd_pos_of_pos_right _ hB
  have g2 : 0 < Nat.gcd c D := Nat.gcd_pos_of_pos_right _ hD
  obtain ⟨a', b', k1, e1, e2⟩ := Nat.exists_coprime a B
  obtain ⟨c', d', k2, e3, e4⟩ := Nat.exists_coprime c D
  generalize Nat.gcd a B = g at g1 e1 e2 ⊢
  generalize Nat.gcd c D = g' at g2 e3 e4 ⊢
  subst e1 e2 e3 e4
  rw [Nat.mul_div_cancel _ g1, Nat.mul_div_cancel _ g1, Nat.mul_div_cancel _ g2, Nat.mul_div_cancel _ g2]
  have h2 : a' * d' = c' * b' := by
    apply Nat.eq_of_mul_eq_mul_right (Nat.mul_pos g1 g2)
    calc a' * d' * (g * g') = a' * g * (d' * g') := by rw [Nat.mul_mul_mul_comm]
      _ = c' * g' * (b' * g) := h
      _ = c' * b' * (g * g') := by rw [Nat.mul_mul_mul_comm, Nat.mul_comm g' g]
  have q1 : b' ∣ d' := Nat.Coprime.dvd_of_dvd_mul_left (m := a') k1.symm ⟨c', by rw [h2, Nat.mul_comm]⟩
  have q2 : d' ∣ b' := Nat.Coprime.dvd_of_dvd_mul_left (m := c') k2.symm ⟨a', by rw [← h2, Nat.mul_comm]⟩
  have e : b' = d' := Nat.dvd_antisymm q1 q2
  subst e
  refine ⟨Nat.eq_of_mul_eq_mul_right (Nat.pos_of_ne_zero ?_) h2, rfl⟩
  rintro rfl
  rw [Nat.zero_mul] at hB
  exact absurd hB (by decide)
theorem frac {A C : Int} {B D : Nat} (hB : 0 < B) (hD : 0 < D) (h : A * D = C * B) : A.tdiv (Nat.gcd A.natAbs B) = C.tdiv (Nat.gcd C.natAbs D) ∧ B / Nat.gcd A.natAbs B = D / Nat.gcd C.natAbs D := by
  have hn : A.natAbs * D = C.natAbs * B := by
    have := congrArg Int.natAbs h
    rw [Int.natAbs_mul, Int.natAbs_mul, Int.natAbs_natCast, Int.natAbs_natCast] at this
    exact this
  obtain ⟨k1, k2⟩ := fracN hB hD hn
  refine ⟨?_, k2⟩
  have pos : ∀ (a g : Nat), (a : Int).tdiv (g : Int) = ((a / g : Nat) : Int) := fun a g => (Int.ofNat_tdiv a g).symm
  have hB' : (0 : Int) < B := by omega
  have hD' : (0 : Int) < D := by omega
  by_cases hA : 0 ≤ A
  · have hC : 0 ≤ C := by
      apply Int.not_lt.mp
      intro q
      have h1 : C * B < 0 := Int.mul_neg_of_neg_of_pos q hB'
      have h2 : 0 ≤ A * D := Int.mul_nonneg hA (by omega)
      omega
    have eA : A = (A.natAbs : Int) := by omega
    have eC : C = (C.natAbs : Int) := by omega
    generalize A.natAbs = a at k1 eA
    generalize C.natAbs = c at k1 eC
    subst eA eC
    rw [pos, pos, k1]
  · have hC : C < 0 := by
      apply Int.not_le.mp
      intro q
      have h1 : 0 ≤ C * B := Int.mul_nonneg q (by omega)
      have h2 : A * D < 0 := Int.mul_neg_of_neg_of_pos (by omega) hD'
      omega
    have eA : A = -(A.natAbs : Int) := by omega
    have eC : C = -(C.natAbs : Int) := by omega
    generalize A.natAbs = a at k1 eA
    generalize C.natAbs = c at k1 eC
    subst eA eC
    rw [Int.neg_tdiv, Int.neg_tdiv, pos, pos, k1]
theorem abs_cl {A : Int} (h : A.natAbs < 2 ^ 30) : fMa_abs (Int32.ofInt A) = nI A.natAbs := by
  have e : (Int32.ofInt A).toInt = A := Int32.toInt_ofInt_of_le (by omega) (by omega)
  have z : (0 : Int32).toInt = 0 := by decide
  unfold fMa_abs
  apply Int32.toInt_inj.mp
  rw [nI_toInt (by omega)]
  by_cases q : 0 ≤ Int32.ofInt A
  · rw [if_pos q, e]
    rw [Int32.le_iff_toInt_le, e, z] at q
    omega
  · rw [if_neg q]
    rw [Int32.le_iff_toInt_le, e, z] at q
    rw [Int32.toInt_sub, e, z, Int.bmod_eq_of_le (by omega) (by omega)]
    omega
theorem tdiv_le {A : Int} {g : Nat} (hg : 0 < g) : (A.tdiv g).natAbs ≤ A.natAbs := by
  rw [Int.natAbs_tdiv, Int.natAbs_natCast]
  exact Nat.div_le_self _ _
theorem part_val {A : Int} {B : Nat} {w : Int32} (hA : A.natAbs < 2 ^ 30) (h0 : 0 < B) (hB : B < 65536) : aPart (Int32.ofInt A) (nI B) w = Int64.ofInt (if w = 0 then A.tdiv (Nat.gcd A.natAbs B) else ((B / Nat.gcd A.natAbs B : Nat) : Int)) := by
  have g0 : 0 < Nat.gcd A.natAbs B := Nat.gcd_pos_of_pos_right _ h0
  have g1 : Nat.gcd A.natAbs B ≤ B := Nat.gcd_le_right _ h0
  have hg : ∀ M, fWt_commonDivisor (fMa_abs (Int32.ofInt A)) (nI B) M = nI (Nat.gcd A.natAbs B) := by
    intro M
    unfold fWt_commonDivisor
    rw [abs_cl hA, nI_clamp (by omega), nI_clamp (by omega)]
  unfold aPart fWt_part
  simp only [hg]
  generalize Nat.gcd A.natAbs B = g at g0 g1 ⊢
  rw [if_neg (nI_ne0 g0 (by omega))]
  by_cases q : w = 0
  · rw [if_pos q, if_pos q, i64_of, Int32.toInt_div, Int32.toInt_ofInt_of_le (by omega) (by omega), nI_toInt (by omega)]
    have := tdiv_le (A := A) g0
    rw [Int.bmod_eq_of_le (by omega) (by omega)]
  · rw [if_neg q, if_neg q, i64_of, pk_div (by omega) g0 (by omega)]
    have : B / g ≤ B := Nat.div_le_self _ _
    rw [nI_toInt (by omega)]
theorem told_val {C : Int} {D : Nat} {w : Int32} {M : pm_M} (hC : C.natAbs < 2 ^ 62) (h0 : 0 < D) (hD : D < 65536) : fMo_told (Int64.ofInt C) (lN D) w M = Int64.ofInt (if w = 0 then C.tdiv (Nat.gcd C.natAbs D) else ((D / Nat.gcd C.natAbs D : Nat) : Int)) ∧ sMo_told (Int64.ofInt C) (lN D) w M := by
  have eC : (Int64.ofInt C).toInt = C := Int64.toInt_ofInt_of_le (by omega) (by omega)
  have eD : (lN D).toInt = (D : Int) := pk_lT (by omega)
  have g0 : 0 < Nat.gcd C.natAbs D := Nat.gcd_pos_of_pos_right _ h0
  have g1 : Nat.gcd C.natAbs D ≤ D := Nat.gcd_le_right _ h0
  have hg : fMo_common (lN D) (Int64.ofInt C) M = lN (Nat.gcd C.natAbs D) := by
    unfold fMo_common
    rw [eC, eD, Int.natAbs_natCast, Nat.gcd_comm]
  have eg : (lN (Nat.gcd C.natAbs D)).toInt = (Nat.gcd C.natAbs D : Int) := pk_lT (by omega)
  refine ⟨?_, ⟨⟨D, by omega, rfl⟩, by rw [eC]; exact hC⟩, ?_⟩
  · unfold fMo_told
    rw [hg]
    generalize Nat.gcd C.natAbs D = g at g0 g1 eg ⊢
    by_cases q : w = 0
    · rw [if_pos q, if_pos q]
      apply Int64.toInt_inj.mp
      have := tdiv_le (A := C) g0
      rw [Int64.toInt_div, eC, eg, Int64.toInt_ofInt_of_le (by omega) (by omega), Int.bmod_eq_of_le (by omega) (by omega)]
    · rw [if_neg q, if_neg q, pk_lDiv (by omega) g0 (by omega)]
      have : D / g ≤ D := Nat.div_le_self _ _
      generalize D / g = z at this ⊢
      apply Int64.toInt_inj.mp
      rw [pk_lT (by omega), Int64.toInt_ofInt_of_le (by omega) (by omega)]
  · rw [hg]
    intro q
    have := (pk_lEQ (a := Nat.gcd C.natAbs D) (b := 0) (by omega) (by omega)).mp q
    omega
/-- class and reference tell one number -/
theorem part_told {A C : Int} {B D : Nat} {w : Int32} {M : pm_M} (hA : A.natAbs < 2 ^ 30) (h0 : 0 < B) (hB : B < 65536) (hC : C.natAbs < 2 ^ 62) (hd : 0 < D) (hD : D < 65536) (h : A * D = C * B) : aPart (Int32.ofInt A) (nI B) w = fMo_told (Int64.ofInt C) (lN D) w M := by
  rw [part_val hA h0 hB, (told_val hC hd hD).1, (frac h0 hd h).1, (frac h0 hd h).2]
