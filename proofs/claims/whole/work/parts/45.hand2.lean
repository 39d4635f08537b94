/-! the greatest common divisor, by at most 64 steps -/
theorem pm_gcd (x y : Nat) : Nat.gcd x y = Nat.gcd y (x % y) := (Nat.gcd_comm x y).trans ((Nat.gcd_rec y x).trans (Nat.gcd_comm _ _))
def fWt_commonDivisor (a0 a1 : Int32) (_M : pm_M) : Int32 := nI (Nat.gcd a0.toNatClampNeg a1.toNatClampNeg)
def sWt_commonDivisor (a0 a1 : Int32) (_M : pm_M) : Prop := ∃ A B, A < 2 ^ 31 ∧ B < 65536 ∧ a0 = nI A ∧ a1 = nI B
theorem eWt_commonDivisor {a0 a1 : Int32} {M : pm_M} (hs : sWt_commonDivisor a0 a1 M) : pm_Ev mWt_commonDivisor [pm_i a0, pm_i a1] M (some (pm_i (fWt_commonDivisor a0 a1 M))) M := by
  refine pm_Sem_of (ls := [some (pm_i a0), some (pm_i a1), none, none, none, none]) ok_mWt_commonDivisor (by decide +kernel) rfl (by decide) (Nat.le_of_ble_eq_true rfl) rfl ?_
  obtain ⟨A, B, hA, hB, rfl, rfl⟩ := hs
  unfold fWt_commonDivisor
  rw [nI_clamp hA, nI_clamp (by omega)]
  refine bWt_commonDivisor_0 ?_
  have done : ∀ x i, Nat.gcd x 0 = Nat.gcd A B → pm_G mWt_commonDivisor 7 [some (pm_i (nI A)), some (pm_i (nI B)), some (pm_i (nI x)), some (pm_i (nI 0)), some (pm_i (nI i)), none] [] M (pm_D (some (pm_i (nI (Nat.gcd A B)))) M) := by
    intro x i h
    rw [Nat.gcd_zero_right] at h
    subst h
    exact bWt_commonDivisor_7 (fun _ => bWt_commonDivisor_34 ⟨rfl, rfl⟩) (fun _ => bWt_commonDivisor_14 (fun _ => bWt_commonDivisor_34 ⟨rfl, rfl⟩) (fun h => absurd rfl h))
  have one : ∀ x y i, x < 2 ^ 31 → y < 2 ^ 31 → y ≠ 0 → i < 64 → pm_G mWt_commonDivisor 7 [some (pm_i (nI A)), some (pm_i (nI B)), some (pm_i (nI y)), some (pm_i (nI (x % y))), some (pm_i (nI (i + 1))), none] [] M (pm_D (some (pm_i (nI (Nat.gcd A B)))) M) → pm_G mWt_commonDivisor 7 [some (pm_i (nI A)), some (pm_i (nI B)), some (pm_i (nI x)), some (pm_i (nI y)), some (pm_i (nI i)), none] [] M (pm_D (some (pm_i (nI (Nat.gcd A B)))) M) := by
    intro x y i hx hy h0 hi kk
    refine bWt_commonDivisor_7 (fun h => ?_) (fun _ => bWt_commonDivisor_14 (fun h => ?_) (fun h => bWt_commonDivisor_18 h ?_))
    · have := (pm_le4 (a := 64) (b := i) (by omega) (by omega)).mp h
      omega
    · exact absurd ((nI_eq hy (by decide)).mp h) h0
    · rw [pk_rem hx (by omega) hy, nI_1]
      exact pm_G_le (ls' := [some (pm_i (nI A)), some (pm_i (nI B)), some (pm_i (nI y)), some (pm_i (nI (x % y))), some (pm_i (nI (i + 1))), none]) ⟨Or.inr rfl, Or.inr rfl, Or.inr rfl, Or.inr rfl, Or.inr rfl, Or.inl rfl, trivial⟩ kk
  have all : ∀ d x y i, d ≤ 16 → x < 2 ^ 31 → y < 2 ^ d → i + 2 * d + 1 ≤ 64 → Nat.gcd x y = Nat.gcd A B → pm_G mWt_commonDivisor 7 [some (pm_i (nI A)), some (pm_i (nI B)), some (pm_i (nI x)), some (pm_i (nI y)), some (pm_i (nI i)), none] [] M (pm_D (some (pm_i (nI (Nat.gcd A B)))) M) := by
    intro d
    induction d with
    | zero =>
      intro x y i _ _ hy _ h
      have h0 : y = 0 := by simpa using hy
      subst h0
      exact done x i h
    | succ d ih =>
      intro x y i hd hx hy hi h
      by_cases h0 : y = 0
      · subst h0
        exact done x i h
      · have hp : 2 ^ (d + 1) ≤ 2 ^ 16 := Nat.pow_le_pow_right (by omega) (by omega)
        have hpp : (2 : Nat) ^ (d + 1) = 2 * 2 ^ d := by rw [Nat.pow_succ]; omega
        have hy9 : y < 65536 := by omega
        have hr : x % y < y := Nat.mod_lt _ (by omega)
        refine one x y i hx (by omega) h0 (by omega) ?_
        rw [pm_gcd] at h
        by_cases h1 : x % y < 2 ^ d
        · exact ih y (x % y) (i + 1) (by omega) (by omega) h1 (by omega) h
        · by_cases h2 : x % y = 0
          · rw [h2] at h ⊢
            exact done y (i + 1) h
          · refine one y (x % y) (i + 1) (by omega) (by omega) h2 (by omega) ?_
            rw [pm_gcd] at h
            refine ih (x % y) (y % (x % y)) (i + 1 + 1) (by omega) (by omega) ?_ (by omega) h
            have h3 : y % (x % y) ≤ y - x % y := by
              have h5 : y % (x % y) = (y - x % y) % (x % y) := Nat.mod_eq_sub_mod (by omega)
              rw [h5]
              exact Nat.mod_le _ _
            omega
  exact all 16 A B 0 (Nat.le_refl _) hA hB (by decide) rfl
/-! the place of the n-th bit -/
theorem pm_bt {b i : Nat} (hb : b < 16) (hi : i < 4) : (((nI b >>> (nI i &&& 31)) &&& 1) = 1) ↔ b.testBit i = true := (by decide +kernel : ∀ b : Fin 16, ∀ i : Fin 4, (((nI b.val >>> (nI i.val &&& 31)) &&& 1) = 1) ↔ b.val.testBit i.val = true) ⟨b, hb⟩ ⟨i, hi⟩
theorem pm_bits_test (p : Nat → Bool) : ∀ n i, (pm_bits p n).testBit i = (decide (i < n) && p i)
  | 0, i => by simp [pm_bits]
  | n + 1, i => by
    rw [pm_bits]
    have ih := pm_bits_test p n i
    have hl := pm_bits_lt p n
    by_cases hp : p n = true
    · rw [if_pos hp, show pm_bits p n + 2 ^ n = 2 ^ n * 1 + pm_bits p n by omega, Nat.testBit_two_pow_mul_add 1 hl]
      by_cases h : i < n
      · have h2 : i < n + 1 := by omega
        rw [if_pos h, ih]
        simp [h, h2]
      · rw [if_neg h]
        by_cases h2 : i = n
        · subst h2
          simp [hp]
        · have h3 : ¬ i < n + 1 := by omega
          obtain ⟨d, hd⟩ := Nat.exists_eq_add_of_lt (show 0 < i - n by omega)
          rw [hd]
          simp [h3, Nat.testBit_add_one]
    · rw [if_neg hp, Nat.add_zero, ih]
      by_cases h : i < n
      · have : i < n + 1 := by omega
        simp [h, this]
      · by_cases h2 : i = n
        · subst h2
          simp [hp]
        · have : ¬ i < n + 1 := by omega
          simp [h, this]
def fWt_bitByOrder (a0 a1 : Int32) (_M : pm_M) : Int32 := nI ((md_lst (fun i => a0.toNatClampNeg.testBit i) 4).getD a1.toNatClampNeg 0)
def sWt_bitByOrder (a0 a1 : Int32) (_M : pm_M) : Prop := ∃ b n, b < 16 ∧ n < 4 ∧ a0 = nI b ∧ a1 = nI n
theorem md_lst_pre {p : Nat → Bool} {i n N : Nat} (hi : i ≤ N) (h : n < (md_lst p i).length) : (md_lst p N).getD n 0 = (md_lst p i).getD n 0 := by
  induction N with
  | zero =>
    have : i = 0 := by omega
    subst this
    rfl
  | succ N ih =>
    by_cases h1 : i = N + 1
    · subst h1
      rfl
    · have e := ih (by omega)
      rw [md_lst_succ]
      split
      · rw [← e]
        have hl : n < (md_lst p N).length := by
          apply Nat.lt_of_not_le
          intro q
          have hmono : ∀ m, i ≤ m → (md_lst p i).length ≤ (md_lst p m).length := by
            intro m hm
            induction m with
            | zero =>
              have : i = 0 := by omega
              subst this
              exact Nat.le_refl _
            | succ m ihm =>
              by_cases h9 : i = m + 1
              · subst h9
                exact Nat.le_refl _
              · have := ihm (by omega)
                rw [md_lst_succ]
                split
                · simp
                  omega
                · exact this
          have := hmono N (by omega)
          omega
        simp [List.getD_eq_getElem?_getD, List.getElem?_append, hl]
      · exact e
theorem eWt_bitByOrder {a0 a1 : Int32} {M : pm_M} (hs : sWt_bitByOrder a0 a1 M) : pm_Ev mWt_bitByOrder [pm_i a0, pm_i a1] M (some (pm_i (fWt_bitByOrder a0 a1 M))) M := by
  refine pm_Sem_of (ls := [some (pm_i a0), some (pm_i a1), none, none]) ok_mWt_bitByOrder (by decide +kernel) rfl (by decide) (Nat.le_of_ble_eq_true rfl) rfl ?_
  obtain ⟨b, n, hb, hn, rfl, rfl⟩ := hs
  unfold fWt_bitByOrder
  rw [pm_cl4 (show b ≤ 1000 by omega), pm_cl4 (show n ≤ 1000 by omega)]
  refine bWt_bitByOrder_0 ?_
  have key := pm_upto (N := 4) (P := fun i => (md_lst (fun i => b.testBit i) i).length ≤ n → pm_G mWt_bitByOrder 4 [some (pm_i (nI b)), some (pm_i (nI n)), some (pm_i (nI (md_lst (fun i => b.testBit i) i).length)), some (pm_i (nI i))] [] M (pm_D (some (pm_i (nI ((md_lst (fun i => b.testBit i) 4).getD n 0)))) M)) ?_ ?_ 0 (Nat.zero_le _)
  · exact key (Nat.zero_le _)
  · intro h
    refine bWt_bitByOrder_4 (fun _ => bWt_bitByOrder_34 ⟨?_, rfl⟩) (fun h => absurd (show nI 4 ≤ nI 4 from (pm_le4 (by omega) (by omega)).mpr (Nat.le_refl _)) h)
    rw [List.getD_eq_getElem?_getD, List.getElem?_eq_none h]
    rfl
  · intro i hi kk hl
    refine bWt_bitByOrder_4 (fun h => ?_) (fun _ => ?_)
    · have := (pm_le4 (a := 4) (b := i) (by omega) (by omega)).mp h
      omega
    · rw [md_lst_succ] at kk
      refine bWt_bitByOrder_9 (fun h => ?_) (fun h => ?_)
      · have ht := (pm_bt hb hi).mp h
        rw [if_pos ht, List.length_append] at kk
        refine bWt_bitByOrder_18 (fun h2 => ?_) (fun h2 => ?_)
        · have e := (pm_eq4 (by omega) (by omega)).mp h2
          refine bWt_bitByOrder_23 ⟨?_, rfl⟩
          rw [md_lst_pre (i := i + 1) (by omega) (by rw [md_lst_succ, if_pos ht]; simp; omega), md_lst_succ, if_pos ht]
          simp [List.getD_eq_getElem?_getD, ← e]
        · refine bWt_bitByOrder_25 (bWt_bitByOrder_28 ?_)
          rw [nI_1, nI_1]
          refine kk ?_
          have : (md_lst (fun i => b.testBit i) i).length ≠ n := fun e => h2 (by rw [e])
          simp
          omega
      · have ht : ¬ b.testBit i = true := fun q => h ((pm_bt hb hi).mpr q)
        rw [if_neg ht] at kk
        refine bWt_bitByOrder_28 ?_
        rw [nI_1]
        exact kk hl
/-! tickets of people that aren't there -/
def pm_lack (k : Nat) (M : pm_M) (t : Nat) : Bool := decide (fWh_hasPerson k (fWh_trait k (nI t) 1 M) M = 0) || decide (fWh_hasPerson k (fWh_trait k (nI t) 2 M) M = 0)
def fWh_lacksPeople (k : Nat) (M : pm_M) : Int32 := if (List.range (M.1 4 k 1).toNatClampNeg).any (pm_lack k M) = true then 1 else 0
theorem zWh_lacksPeople (k : Nat) (M : pm_M) : narrow .boolean (.int (fWh_lacksPeople k M)) = .int (fWh_lacksPeople k M) := by
  unfold fWh_lacksPeople
  split <;> rfl
def sWh_lacksPeople (k : Nat) (M : pm_M) : Prop := pm_small (M.1 4 k 1)
theorem eWh_lacksPeople {k : Nat} {M : pm_M} (hs : sWh_lacksPeople k M) : pm_Ev mWh_lacksPeople [pm_r 4 k] M (some (pm_i (fWh_lacksPeople k M))) M := by
  refine pm_Sem_of (ls := [some (pm_r 4 k), none]) ok_mWh_lacksPeople (by decide +kernel) rfl (by decide) (Nat.le_of_ble_eq_true rfl) rfl ?_
  obtain ⟨T, h4, hT⟩ := hs
  unfold fWh_lacksPeople
  rw [hT, pm_cl4 (by omega)]
  refine bWh_lacksPeople_0 ?_
  have key := pm_upto (N := T) (P := fun i => (∀ t, t < i → pm_lack k M t = false) → pm_G mWh_lacksPeople 2 [some (pm_r 4 k), some (pm_i (nI i))] [] M (pm_D (some (pm_i (if (List.range T).any (pm_lack k M) = true then 1 else 0))) M)) ?_ ?_ 0 (Nat.zero_le _)
  · exact key (fun t ht => by omega)
  · intro h
    refine bWh_lacksPeople_2 (fun _ => bWh_lacksPeople_44 rfl ⟨?_, rfl⟩) (fun h => absurd (by rw [hT]; exact (pm_le4 (by omega) (by omega)).mpr (Nat.le_refl _)) h)
    rw [if_neg]
    intro q
    obtain ⟨t, h1, h2⟩ := List.any_eq_true.mp q
    rw [h t (List.mem_range.mp h1)] at h2
    cases h2
  · intro i hi kk hl
    refine bWh_lacksPeople_2 (fun h => ?_) (fun _ => ?_)
    · rw [hT] at h
      have := (pm_le4 (by omega) (by omega)).mp h
      omega
    · have yes : pm_lack k M i = true → pm_G mWh_lacksPeople 36 [some (pm_r 4 k), some (pm_i (nI i))] [] M (pm_D (some (pm_i (if (List.range T).any (pm_lack k M) = true then 1 else 0))) M) := by
        intro h
        refine bWh_lacksPeople_36 rfl ⟨?_, rfl⟩
        rw [if_pos (List.any_eq_true.mpr ⟨i, List.mem_range.mpr hi, h⟩)]
      refine bWh_lacksPeople_10 (eWh_trait (sWh_all (by omega) (by simp))) (bWh_lacksPeople_17 eWh_hasPerson (bWh_lacksPeople_20 (fun h => ?_) (fun h => ?_)))
      · exact yes (by unfold pm_lack; simp [h])
      · refine bWh_lacksPeople_23 (eWh_trait (sWh_all (by omega) (by simp))) (bWh_lacksPeople_30 eWh_hasPerson (bWh_lacksPeople_33 (fun h2 => ?_) (fun h2 => ?_)))
        · exact yes (by unfold pm_lack; simp [h2])
        · refine bWh_lacksPeople_38 ?_
          rw [nI_1]
          refine kk (fun t ht => ?_)
          by_cases h9 : t = i
          · subst h9
            unfold pm_lack
            simp [h, h2]
          · exact hl t (by omega)
