/-! read: the fault at a pair -/
def rF (sz ln a2 a3 : Int32) (i : Nat) : Int32 := if sz = -4 then 1 else if a2 = ln then (if 0 ≤ a3.toInt + 2 * i ∧ a3.toInt + 2 * i + 1 < sz.toInt then 0 else 2) else 3
def shOK (M : pm_M) (k : Nat) (sz ln : Int32) : Prop := (sz = -4 ∧ M.1 40 0 k = -4) ∨ ∃ l n, l ≤ 2 ∧ n ≤ 40 ∧ sz = nI n ∧ ln = nI l ∧ M.1 40 0 k = nI l ∧ M.1 41 0 k = nI n
theorem tw_at {i : Nat} (hi : i < 20) : 2 * nI i = nI (2 * i) := (by decide +kernel : ∀ i : Fin 20, 2 * nI i.val = nI (2 * i.val)) ⟨i, hi⟩
theorem idx_in {a3 : Int32} {e n : Nat} {M : pm_M} (he : e < 40) (hn : n ≤ 40) : fWt_within (a3 + nI e) 0 (nI n - 1) M = if 0 ≤ a3.toInt + e ∧ a3.toInt + e < n then 1 else 0 := by
  have hl := Int32.toInt_lt a3
  have hg := Int32.le_toInt a3
  have en : (nI n - 1).toInt = (n : Int) - 1 := by
    rcases n with _ | n
    · decide
    · rw [nI_pred, nI_toInt (by omega)]
      omega
  have e0 : (0 : Int32).toInt = 0 := by decide
  have ex : (a3 + nI e).toInt = (a3.toInt + e).bmod (2 ^ 32) := by rw [Int32.toInt_add, nI_toInt (by omega)]
  unfold fWt_within
  simp only [Int32.lt_iff_toInt_lt, en, e0]
  by_cases q : a3.toInt + e < 2 ^ 31
  · rw [Int.bmod_eq_of_le (by omega) (by omega)] at ex
    rw [ex]
    split
    · rw [if_neg (by omega)]
    · split
      · rw [if_neg (by omega)]
      · rw [if_pos (by omega)]
  · have e2 : (a3.toInt + e).bmod (2 ^ 32) = a3.toInt + e - 2 ^ 32 := by
      rw [show a3.toInt + (e : Int) = (a3.toInt + e - 2 ^ 32) + ((2 ^ 32 : Nat) : Int) by omega, Int.add_bmod_right, Int.bmod_eq_of_le (by omega) (by omega)]
      omega
    rw [e2] at ex
    rw [ex, if_pos (by omega), if_neg (by omega)]
theorem c_pair {M : pm_M} {k i : Nat} {a2 a3 : Int32} (hi : i < 20) (hs : shOK M k (M.1 27 k 0) (M.1 27 k 1)) : fSh_faultAtPair k a2 (a3 + 2 * nI i) M = rF (M.1 27 k 0) (M.1 27 k 1) a2 a3 i := by
  unfold fSh_faultAtPair fSh_faultAtPair_19 fSh_faultAt rF
  rcases hs with ⟨h1, _⟩ | ⟨l, n, hl, hn, h1, h2, _, _⟩
  · rw [if_pos h1, if_pos h1, if_pos h1, if_neg (by decide), if_pos h1]
  · have n4 : ¬ M.1 27 k 0 = -4 := by rw [h1]; exact nI_ne45 (by omega)
    rw [if_neg n4, if_neg n4, if_neg n4, if_neg n4]
    by_cases q : a2 = M.1 27 k 1
    · rw [if_pos q, if_pos q, h1, tw_at hi, show a3 + nI (2 * i) + 1 = a3 + nI (2 * i + 1) by rw [Int32.add_assoc, nI_1], idx_in (by omega) hn, idx_in (by omega) hn, nI_toInt (by omega)]
      by_cases q1 : 0 ≤ a3.toInt + (2 * i : Nat) ∧ a3.toInt + (2 * i : Nat) < n
      · rw [if_pos q1, if_neg (show ¬ (1 : Int32) = 0 by decide), if_pos rfl]
        by_cases q2 : 0 ≤ a3.toInt + (2 * i + 1 : Nat) ∧ a3.toInt + (2 * i + 1 : Nat) < n
        · rw [if_pos q2, if_neg (show ¬ (1 : Int32) = 0 by decide), if_pos (by omega)]
        · rw [if_neg q2, if_pos rfl, if_neg (by omega)]
      · rw [if_neg q1, if_pos rfl, if_neg (show ¬ (2 : Int32) = 0 by decide), if_neg (by omega)]
    · rw [if_neg q, if_neg q]
/-- where there is no fault -/
theorem rF_0 {M : pm_M} {k i : Nat} {sz ln a2 a3 : Int32} (hi : i < 20) (hs : shOK M k sz ln) (h : rF sz ln a2 a3 i = 0) : ∃ e, e + 1 < 40 ∧ (a3.toInt + 2 * i).toNat = e ∧ a3 + 2 * nI i = nI e ∧ (a3 + 2 * nI i) + 1 = nI (e + 1) := by
  unfold rF at h
  rcases hs with ⟨h1, _⟩ | ⟨l, n, hl, hn, h1, h2, _, _⟩
  · rw [if_pos h1] at h
    exact absurd h (by decide)
  · have n4 : ¬ sz = -4 := by rw [h1]; exact nI_ne45 (by omega)
    rw [if_neg n4] at h
    by_cases q : a2 = ln
    · rw [if_pos q, h1, nI_toInt (by omega)] at h
      by_cases q1 : 0 ≤ a3.toInt + 2 * i ∧ a3.toInt + 2 * i + 1 < n
      · have e1 : a3 + 2 * nI i = nI (a3.toInt + 2 * i).toNat := by
          rw [tw_at hi]
          apply Int32.toInt_inj.mp
          rw [Int32.toInt_add, nI_toInt (by omega), nI_toInt (by omega), Int.bmod_eq_of_le (by omega) (by omega)]
          omega
        exact ⟨(a3.toInt + 2 * i).toNat, by omega, rfl, e1, by rw [e1, nI_1]⟩
      · rw [if_neg q1] at h
        exact absurd h (by decide)
    · rw [if_neg q] at h
      exact absurd h (by decide)
/-! the reference's two cells of a pair -/
theorem lp_at {a3 : Int32} {i c : Nat} (hi : i < 20) (hc : c ≤ 1) : ((a3.toInt64 + (2 * nI i).toInt64) + (nI c).toInt64).toInt = a3.toInt + 2 * i + c := by
  have hl := Int32.toInt_lt a3
  have hg := Int32.le_toInt a3
  rw [tw_at hi, Int64.toInt_add, Int64.toInt_add, Int32.toInt_toInt64, Int32.toInt_toInt64, Int32.toInt_toInt64, nI_toInt (by omega), nI_toInt (by omega), Int.bmod_eq_of_le (n := a3.toInt + ((2 * i : Nat) : Int)) (by omega) (by omega), Int.bmod_eq_of_le (by omega) (by omega)]
  omega
def rOne (sz ln a2 a3 : Int32) (i c : Nat) : Int32 := if sz = -4 then 1 else if a2 = ln then (if 0 ≤ a3.toInt + 2 * i + c ∧ a3.toInt + 2 * i + c < sz.toInt then 0 else 2) else 3
theorem m_one {M : pm_M} {Q : Option pm_V → pm_M → Prop} {k i c : Nat} {a2 a3 a4 a6 sz ln : Int32} (hk : k < 4) (hi : i < 20) (hc : c ≤ 1) (hs : shOK M k sz ln)
    (kk : pm_G mMo_read 77 [some (pm_r 29 0), some (pm_i (nI k)), some (pm_i a2), some (pm_i a3), some (pm_i a4), some (pm_i (rOne sz ln a2 a3 i c)), some (pm_i a6), some (pm_i (nI i)), some (pm_i (nI (c + 1))), none, none] [] M Q) :
    pm_G mMo_read 77 [some (pm_r 29 0), some (pm_i (nI k)), some (pm_i a2), some (pm_i a3), some (pm_i a4), some (pm_i 0), some (pm_i a6), some (pm_i (nI i)), some (pm_i (nI c)), none, none] [] M Q := by
  have vk : vp_in (nI k) 4 := pm_vin hk (by omega)
  have ck : (nI k).toNatClampNeg = k := pm_cl4 (by omega)
  have fin : ∀ (b9 : Int64) (x : Int32), x = rOne sz ln a2 a3 i c → pm_G mMo_read 156 [some (pm_r 29 0), some (pm_i (nI k)), some (pm_i a2), some (pm_i a3), some (pm_i a4), some (pm_i 0), some (pm_i a6), some (pm_i (nI i)), some (pm_i (nI c)), some (pm_l b9), none] [pm_i x] M Q := by
    intro b9 x hx
    refine bMo_read_156 ?_
    rw [hx, nI_1]
    refine pm_G_le ?_ kk
    exact ⟨Or.inr rfl, Or.inr rfl, Or.inr rfl, Or.inr rfl, Or.inr rfl, Or.inr rfl, Or.inr rfl, Or.inr rfl, Or.inr rfl, Or.inl rfl, Or.inl rfl, trivial⟩
  refine bMo_read_77 (fun q => ?_) (fun _ => bMo_read_83 (fun _ => ?_) (fun q => absurd rfl q))
  · have := (pm_le4 (a := 2) (b := c) (by omega) (by omega)).mp q
    omega
  · unfold rOne at fin
    have e0 : (0 : Int64).toInt = 0 := by decide
    rcases hs with ⟨h1, h2⟩ | ⟨l, n, hl, hn, h1, h2, h3, h4⟩
    · refine bMo_read_88 vk (fun _ => bMo_read_113 (fin _ _ (by rw [if_pos h1]))) (fun q => absurd (by rw [ck]; exact h2) q)
    · have n4 : ¬ sz = -4 := by rw [h1]; exact nI_ne45 (by omega)
      refine bMo_read_88 vk (fun q => ?_) (fun _ => bMo_read_117 vk (fun q => ?_) (fun q => bMo_read_127 (fin _ _ ?_)))
      · rw [ck, h3] at q
        exact absurd q (nI_ne45 (by omega))
      · rw [ck, h3] at q
        refine bMo_read_131 (fun q1 => bMo_read_151 (fin _ _ ?_)) (fun q1 => bMo_read_138 vk (fun q2 => bMo_read_155 (fin _ _ ?_)) (fun q2 => bMo_read_151 (fin _ _ ?_)))
        · rw [lg_cmp_lt, Int64.lt_iff_toInt_lt, lp_at hi hc, e0] at q1
          rw [if_neg n4, if_pos (by rw [h2, q]), if_neg (by omega)]
        · rw [lg_cmp_lt, Int64.lt_iff_toInt_lt, lp_at hi hc, e0] at q1
          rw [lg_cmp_lt, Int64.lt_iff_toInt_lt, lp_at hi hc, ck, h4, Int32.toInt_toInt64, nI_toInt (by omega)] at q2
          rw [if_neg n4, if_pos (by rw [h2, q]), h1, nI_toInt (by omega), if_pos (by omega)]
        · rw [lg_cmp_lt, Int64.lt_iff_toInt_lt, lp_at hi hc, e0] at q1
          rw [lg_cmp_lt, Int64.lt_iff_toInt_lt, lp_at hi hc, ck, h4, Int32.toInt_toInt64, nI_toInt (by omega)] at q2
          rw [if_neg n4, if_pos (by rw [h2, q]), h1, nI_toInt (by omega), if_neg (by omega)]
      · rw [ck, h3] at q
        rw [if_neg n4, if_neg (fun q9 => q (by rw [← h2, q9]))]
theorem rOne_F {sz ln a2 a3 : Int32} {i : Nat} : rF sz ln a2 a3 i = if rOne sz ln a2 a3 i 0 = 0 then rOne sz ln a2 a3 i 1 else rOne sz ln a2 a3 i 0 := by
  unfold rF rOne
  by_cases q : sz = -4
  · rw [if_pos q, if_pos q, if_neg (by decide)]
  · rw [if_neg q, if_neg q, if_neg q]
    by_cases q1 : a2 = ln
    · rw [if_pos q1, if_pos q1, if_pos q1]
      by_cases q2 : 0 ≤ a3.toInt + 2 * i + (0 : Nat) ∧ a3.toInt + 2 * i + (0 : Nat) < sz.toInt
      · rw [if_pos q2, if_pos rfl]
        by_cases q3 : 0 ≤ a3.toInt + 2 * i ∧ a3.toInt + 2 * i + 1 < sz.toInt
        · rw [if_pos q3, if_pos (by omega)]
        · rw [if_neg q3, if_neg (by omega)]
      · rw [if_neg q2, if_neg (show ¬ (2 : Int32) = 0 by decide), if_neg (by omega)]
    · rw [if_neg q1, if_neg q1, if_neg q1, if_neg (by decide)]
theorem m_pair {M : pm_M} {Q : Option pm_V → pm_M → Prop} {k i : Nat} {a2 a3 a4 a6 sz ln : Int32} (hk : k < 4) (hi : i < 20) (hs : shOK M k sz ln)
    (kk : ∀ c : Int32, pm_G mMo_read 164 [some (pm_r 29 0), some (pm_i (nI k)), some (pm_i a2), some (pm_i a3), some (pm_i a4), some (pm_i (rF sz ln a2 a3 i)), some (pm_i a6), some (pm_i (nI i)), some (pm_i c), none, none] [] M Q) :
    pm_G mMo_read 74 [some (pm_r 29 0), some (pm_i (nI k)), some (pm_i a2), some (pm_i a3), some (pm_i a4), some (pm_i 0), some (pm_i a6), some (pm_i (nI i)), none, none, none] [] M Q := by
  rw [rOne_F] at kk
  refine bMo_read_74 (m_one (c := 0) hk hi (by omega) hs ?_)
  by_cases q : rOne sz ln a2 a3 i 0 = 0
  · rw [q]
    rw [if_pos q] at kk
    refine m_one (c := 1) hk hi (by omega) hs (bMo_read_77 (fun _ => kk _) (fun q9 => absurd (show (2 : Int32) ≤ nI (1 + 1) by decide) q9))
  · rw [if_neg q] at kk
    exact bMo_read_77 (fun q9 => absurd q9 (by decide)) (fun _ => bMo_read_83 (fun q9 => absurd q9 q) (fun _ => kk _))
