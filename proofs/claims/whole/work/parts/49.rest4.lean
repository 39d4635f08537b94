/-! counting over rows of orders -/
theorem pm_nle {x : Int32} {N i : Nat} (hx : x = nI N) (hi : i < N) (hN : N ≤ 1000) : ¬ x ≤ nI i := by
  subst hx
  intro h
  have := (pm_le4 hN (by omega)).mp h
  omega
theorem pm_yle {x : Int32} {N : Nat} (hx : x = nI N) (hN : N ≤ 1000) : x ≤ nI N := by
  subst hx
  exact (pm_le4 hN hN).mpr (Nat.le_refl _)
def pm_cnt1 (c : Nat → Bool) : Nat → Nat
  | 0 => 0
  | n + 1 => pm_cnt1 c n + (if c n = true then 1 else 0)
def pm_sumN (g : Nat → Nat) : Nat → Nat
  | 0 => 0
  | n + 1 => pm_sumN g n + g n
def pm_alln (c : Nat → Bool) : Nat → Bool
  | 0 => true
  | n + 1 => pm_alln c n && c n
theorem pm_alln_pre {c : Nat → Bool} : ∀ {N i : Nat}, i < N → c i = false → pm_alln c N = false
  | N + 1, i, h, hc => by
    rw [pm_alln]
    by_cases h1 : i = N
    · subst h1
      rw [hc, Bool.and_false]
    · rw [pm_alln_pre (N := N) (by omega) hc, Bool.false_and]
theorem pm_alln_iff {c : Nat → Bool} : ∀ {N : Nat}, pm_alln c N = true ↔ ∀ i, i < N → c i = true
  | 0 => ⟨fun _ i h => absurd h (Nat.not_lt_zero i), fun _ => rfl⟩
  | N + 1 => by
    rw [pm_alln, Bool.and_eq_true, pm_alln_iff (N := N)]
    constructor
    · rintro ⟨h1, h2⟩ i hi
      by_cases h : i = N
      · subst h; exact h2
      · exact h1 i (by omega)
    · intro h
      exact ⟨fun i hi => h i (by omega), h N (by omega)⟩
theorem re_ix24 {p o : Nat} (hp : p < 4) (ho : o < 24) : Int32.toNatClampNeg ((24 * nI p) + nI o) = 24 * p + o ∧ vp_in ((24 * nI p) + nI o) 96 := by
  have : ∀ p : Fin 4, ∀ o : Fin 24, Int32.toNatClampNeg ((24 * nI p.val) + nI o.val) = 24 * p.val + o.val ∧ vp_in ((24 * nI p.val) + nI o.val) 96 := by
    unfold vp_in
    decide +kernel
  exact this ⟨p, hp⟩ ⟨o, ho⟩
theorem sRe_gain_ok {p o q : Nat} {M : pm_M} (hp : p < 4) (ho : o < 24) (hq : q < 24) : sRe_gain (nI p) (nI o) (nI q) M := ⟨(re_ix24 hp ho).2, (re_ix24 hp hq).2⟩
theorem fRe_gain_at {p o q : Nat} {M : pm_M} (hp : p < 4) (ho : o < 24) (hq : q < 24) : fRe_gain (nI p) (nI o) (nI q) M = M.1 17 0 (24 * p + o) + M.1 18 0 (24 * p + q) := by
  unfold fRe_gain
  rw [(re_ix24 hp ho).1, (re_ix24 hp hq).1]
/-- how many orders there are -/
def re_N (M : pm_M) : Nat := (M.1 12 0 1).toNatClampNeg
def re_some (M : pm_M) : Prop := ∃ N, N ≤ 24 ∧ M.1 12 0 1 = nI N
theorem re_some_N {M : pm_M} (h : re_some M) : re_N M ≤ 24 ∧ M.1 12 0 1 = nI (re_N M) := by
  obtain ⟨N, h1, h2⟩ := h
  unfold re_N
  rw [h2, pm_cl4 (by omega)]
  exact ⟨h1, rfl⟩
def fRe_waysNoLess (a1 a2 : Int32) (M : pm_M) : Int32 := nI (pm_sumN (fun o => pm_cnt1 (fun q => decide (a2 ≤ fRe_gain a1 (nI o) (nI q) M)) (re_N M)) (re_N M))
def sRe_waysNoLess (a1 _a2 : Int32) (M : pm_M) : Prop := (∃ p, p < 4 ∧ a1 = nI p) ∧ re_some M
theorem eRe_waysNoLess {a1 a2 : Int32} {M : pm_M} (hs : sRe_waysNoLess a1 a2 M) : pm_Ev mRe_waysNoLess [pm_r 12 0, pm_i a1, pm_i a2] M (some (pm_i (fRe_waysNoLess a1 a2 M))) M := by
  refine pm_Sem_of (ls := [some (pm_r 12 0), some (pm_i a1), some (pm_i a2), none, none, none]) ok_mRe_waysNoLess (by decide +kernel) rfl (by decide) (Nat.le_of_ble_eq_true rfl) rfl ?_
  obtain ⟨⟨p, hp, rfl⟩, hn⟩ := hs
  obtain ⟨hN, hM⟩ := re_some_N hn
  unfold fRe_waysNoLess
  generalize re_N M = N at hN hM ⊢
  refine bRe_waysNoLess_0 ?_
  refine pm_upto (N := N) (P := fun o => pm_G mRe_waysNoLess 5 [some (pm_r 12 0), some (pm_i (nI p)), some (pm_i a2), some (pm_i (nI (pm_sumN (fun o => pm_cnt1 (fun q => decide (a2 ≤ fRe_gain (nI p) (nI o) (nI q) M)) N) o))), some (pm_i (nI o)), none] [] M (pm_D (some (pm_i (nI (pm_sumN (fun o => pm_cnt1 (fun q => decide (a2 ≤ fRe_gain (nI p) (nI o) (nI q) M)) N) N)))) M)) ?_ ?_ 0 (Nat.zero_le _)
  · exact bRe_waysNoLess_5 (fun _ => bRe_waysNoLess_54 ⟨rfl, rfl⟩) (fun h => absurd (pm_yle hM (by omega)) h)
  · intro o ho kk
    refine bRe_waysNoLess_5 (fun h => absurd h (pm_nle hM ho (by omega))) (fun _ => bRe_waysNoLess_14 ?_)
    refine pm_upto (N := N) (P := fun q => pm_G mRe_waysNoLess 17 [some (pm_r 12 0), some (pm_i (nI p)), some (pm_i a2), some (pm_i (nI (pm_sumN (fun o => pm_cnt1 (fun q => decide (a2 ≤ fRe_gain (nI p) (nI o) (nI q) M)) N) o + pm_cnt1 (fun q => decide (a2 ≤ fRe_gain (nI p) (nI o) (nI q) M)) q))), some (pm_i (nI o)), some (pm_i (nI q))] [] M (pm_D (some (pm_i (nI (pm_sumN (fun o => pm_cnt1 (fun q => decide (a2 ≤ fRe_gain (nI p) (nI o) (nI q) M)) N) N)))) M)) ?_ ?_ 0 (Nat.zero_le _)
    · refine bRe_waysNoLess_17 (fun _ => bRe_waysNoLess_48 ?_) (fun h => absurd (pm_yle hM (by omega)) h)
      rw [nI_1]
      refine pm_G_le (ls' := [some (pm_r 12 0), some (pm_i (nI p)), some (pm_i a2), some (pm_i (nI (pm_sumN (fun o => pm_cnt1 (fun q => decide (a2 ≤ fRe_gain (nI p) (nI o) (nI q) M)) N) (o + 1)))), some (pm_i (nI (o + 1))), none]) ⟨Or.inr rfl, Or.inr rfl, Or.inr rfl, Or.inr rfl, Or.inr rfl, Or.inl rfl, trivial⟩ kk
    · intro q hq k2
      refine bRe_waysNoLess_17 (fun h => absurd h (pm_nle hM hq (by omega))) (fun _ => bRe_waysNoLess_26 (eRe_gain (sRe_gain_ok hp (by omega) (by omega))) ?_)
      rw [pm_cnt1, ← nI_1] at k2
      refine bRe_waysNoLess_35 (fun h => ?_) (fun h => ?_)
      · rw [if_neg (by simpa using h)] at k2
        exact bRe_waysNoLess_42 k2
      · rw [if_pos (by simpa using h), ← Nat.add_assoc, ← nI_1] at k2
        exact bRe_waysNoLess_39 (bRe_waysNoLess_42 k2)
def re_sol (k : Nat) (o q : Nat) (M : pm_M) (p : Nat) : Bool := decide (0 ≤ M.1 5 k p + fRe_gain (nI p) (nI o) (nI q) M)
def fRe_isSolid (k1 : Nat) (a2 a3 : Int32) (M : pm_M) : Int32 := if pm_alln (re_sol k1 a2.toNatClampNeg a3.toNatClampNeg M) (M.1 4 k1 0).toNatClampNeg = true then 1 else 0
def sRe_isSolid (k1 : Nat) (a2 a3 : Int32) (M : pm_M) : Prop := pm_small (M.1 4 k1 0) ∧ (∃ o, o < 24 ∧ a2 = nI o) ∧ ∃ q, q < 24 ∧ a3 = nI q
theorem zRe_isSolid (k1 : Nat) (a2 a3 : Int32) (M : pm_M) : narrow .boolean (.int (fRe_isSolid k1 a2 a3 M)) = .int (fRe_isSolid k1 a2 a3 M) := by
  unfold fRe_isSolid
  split <;> rfl
theorem eRe_isSolid {k1 : Nat} {a2 a3 : Int32} {M : pm_M} (hs : sRe_isSolid k1 a2 a3 M) : pm_Ev mRe_isSolid [pm_r 12 0, pm_r 4 k1, pm_i a2, pm_i a3] M (some (pm_i (fRe_isSolid k1 a2 a3 M))) M := by
  refine pm_Sem_of (ls := [some (pm_r 12 0), some (pm_r 4 k1), some (pm_i a2), some (pm_i a3), none]) ok_mRe_isSolid (by decide +kernel) rfl (by decide) (Nat.le_of_ble_eq_true rfl) rfl ?_
  obtain ⟨⟨P, hP, hM⟩, ⟨o, ho, rfl⟩, ⟨q, hq, rfl⟩⟩ := hs
  unfold fRe_isSolid
  rw [hM, pm_cl4 (show P ≤ 1000 by omega), pm_cl4 (show o ≤ 1000 by omega), pm_cl4 (show q ≤ 1000 by omega)]
  refine bRe_isSolid_0 ?_
  refine pm_upto (N := P) (P := fun i => pm_alln (re_sol k1 o q M) i = true → pm_G mRe_isSolid 3 [some (pm_r 12 0), some (pm_r 4 k1), some (pm_i (nI o)), some (pm_i (nI q)), some (pm_i (nI i))] [] M (pm_D (some (pm_i (if pm_alln (re_sol k1 o q M) P = true then 1 else 0))) M)) ?_ ?_ 0 (Nat.zero_le _) rfl
  · intro hall
    refine bRe_isSolid_3 (fun _ => bRe_isSolid_39 rfl ?_) (fun h => absurd (pm_yle hM (by omega)) h)
    rw [if_pos hall]
    exact ⟨rfl, rfl⟩
  · intro i hi k2 hall
    refine bRe_isSolid_3 (fun h => absurd h (pm_nle hM hi (by omega))) (fun _ => bRe_isSolid_12 (pm_vin (by omega) (by omega)) (eRe_gain (sRe_gain_ok (by omega) ho hq)) ?_)
    rw [pm_cl4 (show i ≤ 1000 by omega)]
    refine bRe_isSolid_27 (fun h => ?_) (fun h => ?_)
    · refine bRe_isSolid_33 ?_
      rw [nI_1]
      refine k2 ?_
      rw [pm_alln, hall, Bool.true_and]
      exact decide_eq_true h
    · refine bRe_isSolid_31 rfl ?_
      rw [if_neg (by rw [pm_alln_pre hi (decide_eq_false h)]; decide)]
      exact ⟨rfl, rfl⟩
def fRe_waysSolid (k1 : Nat) (M : pm_M) : Int32 := nI (pm_sumN (fun o => pm_cnt1 (fun q => pm_alln (re_sol k1 o q M) (M.1 4 k1 0).toNatClampNeg) (re_N M)) (re_N M))
def sRe_waysSolid (k1 : Nat) (M : pm_M) : Prop := pm_small (M.1 4 k1 0) ∧ re_some M
theorem eRe_waysSolid {k1 : Nat} {M : pm_M} (hs : sRe_waysSolid k1 M) : pm_Ev mRe_waysSolid [pm_r 12 0, pm_r 4 k1] M (some (pm_i (fRe_waysSolid k1 M))) M := by
  refine pm_Sem_of (ls := [some (pm_r 12 0), some (pm_r 4 k1), none, none, none]) ok_mRe_waysSolid (by decide +kernel) rfl (by decide) (Nat.le_of_ble_eq_true rfl) rfl ?_
  obtain ⟨hP, hn⟩ := hs
  obtain ⟨hN, hM⟩ := re_some_N hn
  unfold fRe_waysSolid
  generalize re_N M = N at hN hM ⊢
  generalize hc : (fun o q => pm_alln (re_sol k1 o q M) (M.1 4 k1 0).toNatClampNeg) = c
  show pm_G mRe_waysSolid 0 [some (pm_r 12 0), some (pm_r 4 k1), none, none, none] [] M (pm_D (some (pm_i (nI (pm_sumN (fun o => pm_cnt1 (fun q => (fun o q => pm_alln (re_sol k1 o q M) (M.1 4 k1 0).toNatClampNeg) o q) N) N)))) M)
  rw [hc]
  refine bRe_waysSolid_0 ?_
  refine pm_upto (N := N) (P := fun o => pm_G mRe_waysSolid 4 [some (pm_r 12 0), some (pm_r 4 k1), some (pm_i (nI (pm_sumN (fun o => pm_cnt1 (c o) N) o))), some (pm_i (nI o)), none] [] M (pm_D (some (pm_i (nI (pm_sumN (fun o => pm_cnt1 (c o) N) N)))) M)) ?_ ?_ 0 (Nat.zero_le _)
  · exact bRe_waysSolid_4 (fun _ => bRe_waysSolid_50 ⟨rfl, rfl⟩) (fun h => absurd (pm_yle hM (by omega)) h)
  · intro o ho kk
    refine bRe_waysSolid_4 (fun h => absurd h (pm_nle hM ho (by omega))) (fun _ => bRe_waysSolid_12 ?_)
    refine pm_upto (N := N) (P := fun q => pm_G mRe_waysSolid 15 [some (pm_r 12 0), some (pm_r 4 k1), some (pm_i (nI (pm_sumN (fun o => pm_cnt1 (c o) N) o + pm_cnt1 (c o) q))), some (pm_i (nI o)), some (pm_i (nI q))] [] M (pm_D (some (pm_i (nI (pm_sumN (fun o => pm_cnt1 (c o) N) N)))) M)) ?_ ?_ 0 (Nat.zero_le _)
    · refine bRe_waysSolid_15 (fun _ => bRe_waysSolid_44 ?_) (fun h => absurd (pm_yle hM (by omega)) h)
      rw [nI_1]
      exact pm_G_le (ls' := [some (pm_r 12 0), some (pm_r 4 k1), some (pm_i (nI (pm_sumN (fun o => pm_cnt1 (c o) N) (o + 1)))), some (pm_i (nI (o + 1))), none]) ⟨Or.inr rfl, Or.inr rfl, Or.inr rfl, Or.inr rfl, Or.inl rfl, trivial⟩ kk
    · intro q hq k2
      refine bRe_waysSolid_15 (fun h => absurd h (pm_nle hM hq (by omega))) (fun _ => bRe_waysSolid_24 (eRe_isSolid ⟨hP, ⟨o, by omega, rfl⟩, ⟨q, by omega, rfl⟩⟩) ?_)
      have hv : fRe_isSolid k1 (nI o) (nI q) M = if c o q = true then 1 else 0 := by
        unfold fRe_isSolid
        rw [← hc, pm_cl4 (show o ≤ 1000 by omega), pm_cl4 (show q ≤ 1000 by omega)]
      rw [hv]
      rw [pm_cnt1, ← nI_1] at k2
      by_cases h : c o q = true
      · rw [if_pos h]
        rw [if_pos h, ← Nat.add_assoc, ← nI_1] at k2
        exact bRe_waysSolid_32 (fun h => absurd h (by decide)) (fun _ => bRe_waysSolid_35 (bRe_waysSolid_38 k2))
      · rw [if_neg h]
        rw [if_neg h] at k2
        exact bRe_waysSolid_32 (fun _ => bRe_waysSolid_38 k2) (fun h => absurd rfl h)
/-! least and most of a row -/
def re_min (g : Nat → Int32) : Nat → Int32
  | 0 => g 0
  | n + 1 => fMa_min (re_min g n) (g (n + 1))
def re_max (g : Nat → Int32) : Nat → Int32
  | 0 => g 0
  | n + 1 => fMa_max (re_max g n) (g (n + 1))
def sRe_rows (a1 : Int32) (M : pm_M) : Prop := (∃ p, p < 4 ∧ a1 = nI p) ∧ ∃ N, N ≤ 24 ∧ 1 ≤ N ∧ M.1 12 0 1 = nI N
def fRe_leastOf17 (a2 : Int32) (M : pm_M) : Int32 := re_min (fun row => M.1 17 0 (24 * a2.toNatClampNeg + row)) (re_N M - 1)
theorem eRe_leastOf17 {a2 : Int32} {M : pm_M} (hs : sRe_rows a2 M) : pm_Ev mRe_leastOf [pm_r 12 0, pm_r 17 0, pm_i a2] M (some (pm_i (fRe_leastOf17 a2 M))) M := by
  refine pm_Sem_of (ls := [some (pm_r 12 0), some (pm_r 17 0), some (pm_i a2), none, none]) ok_mRe_leastOf (by decide +kernel) rfl (by decide) (Nat.le_of_ble_eq_true rfl) rfl ?_
  obtain ⟨⟨p, hp, rfl⟩, N, hN, h1, hM⟩ := hs
  unfold fRe_leastOf17 re_N
  rw [hM, pm_cl4 (show N ≤ 1000 by omega), pm_cl4 (show p ≤ 1000 by omega)]
  have e0 : (24 * nI p).toNatClampNeg = 24 * p ∧ vp_in (24 * nI p) 96 := by
    have : ∀ p : Fin 4, (24 * nI p.val).toNatClampNeg = 24 * p.val ∧ vp_in (24 * nI p.val) 96 := by
      unfold vp_in
      decide +kernel
    exact this ⟨p, hp⟩
  refine bRe_leastOf17_0 e0.2 ?_
  rw [e0.1]
  refine pm_upto (N := N - 1) (P := fun i => pm_G mRe_leastOf 10 [some (pm_r 12 0), some (pm_r 17 0), some (pm_i (nI p)), some (pm_i (re_min (fun row => M.1 17 0 (24 * p + row)) i)), some (pm_i (nI (i + 1)))] [] M (pm_D (some (pm_i (re_min (fun row => M.1 17 0 (24 * p + row)) (N - 1)))) M)) ?_ ?_ 0 (Nat.zero_le _)
  · rw [show N - 1 + 1 = N by omega]
    exact bRe_leastOf17_10 (fun _ => bRe_leastOf17_39 ⟨rfl, rfl⟩) (fun h => absurd (pm_yle hM (by omega)) h)
  · intro i hi k2
    refine bRe_leastOf17_10 (fun h => absurd h (pm_nle hM (by omega) (by omega))) (fun _ => bRe_leastOf17_19 (re_ix24 hp (by omega)).2 (bRe_leastOf17_32 ?_))
    rw [(re_ix24 hp (show i + 1 < 24 by omega)).1, nI_1]
    exact k2

def fRe_leastOf18 (a2 : Int32) (M : pm_M) : Int32 := re_min (fun row => M.1 18 0 (24 * a2.toNatClampNeg + row)) (re_N M - 1)
theorem eRe_leastOf18 {a2 : Int32} {M : pm_M} (hs : sRe_rows a2 M) : pm_Ev mRe_leastOf [pm_r 12 0, pm_r 18 0, pm_i a2] M (some (pm_i (fRe_leastOf18 a2 M))) M := by
  refine pm_Sem_of (ls := [some (pm_r 12 0), some (pm_r 18 0), some (pm_i a2), none, none]) ok_mRe_leastOf (by decide +kernel) rfl (by decide) (Nat.le_of_ble_eq_true rfl) rfl ?_
  obtain ⟨⟨p, hp, rfl⟩, N, hN, h1, hM⟩ := hs
  unfold fRe_leastOf18 re_N
  rw [hM, pm_cl4 (show N ≤ 1000 by omega), pm_cl4 (show p ≤ 1000 by omega)]
  have e0 : (24 * nI p).toNatClampNeg = 24 * p ∧ vp_in (24 * nI p) 96 := by
    have : ∀ p : Fin 4, (24 * nI p.val).toNatClampNeg = 24 * p.val ∧ vp_in (24 * nI p.val) 96 := by
      unfold vp_in
      decide +kernel
    exact this ⟨p, hp⟩
  refine bRe_leastOf18_0 e0.2 ?_
  rw [e0.1]
  refine pm_upto (N := N - 1) (P := fun i => pm_G mRe_leastOf 10 [some (pm_r 12 0), some (pm_r 18 0), some (pm_i (nI p)), some (pm_i (re_min (fun row => M.1 18 0 (24 * p + row)) i)), some (pm_i (nI (i + 1)))] [] M (pm_D (some (pm_i (re_min (fun row => M.1 18 0 (24 * p + row)) (N - 1)))) M)) ?_ ?_ 0 (Nat.zero_le _)
  · rw [show N - 1 + 1 = N by omega]
    exact bRe_leastOf18_10 (fun _ => bRe_leastOf18_39 ⟨rfl, rfl⟩) (fun h => absurd (pm_yle hM (by omega)) h)
  · intro i hi k2
    refine bRe_leastOf18_10 (fun h => absurd h (pm_nle hM (by omega) (by omega))) (fun _ => bRe_leastOf18_19 (re_ix24 hp (by omega)).2 (bRe_leastOf18_32 ?_))
    rw [(re_ix24 hp (show i + 1 < 24 by omega)).1, nI_1]
    exact k2

def fRe_mostOf17 (a2 : Int32) (M : pm_M) : Int32 := re_max (fun row => M.1 17 0 (24 * a2.toNatClampNeg + row)) (re_N M - 1)
theorem eRe_mostOf17 {a2 : Int32} {M : pm_M} (hs : sRe_rows a2 M) : pm_Ev mRe_mostOf [pm_r 12 0, pm_r 17 0, pm_i a2] M (some (pm_i (fRe_mostOf17 a2 M))) M := by
  refine pm_Sem_of (ls := [some (pm_r 12 0), some (pm_r 17 0), some (pm_i a2), none, none]) ok_mRe_mostOf (by decide +kernel) rfl (by decide) (Nat.le_of_ble_eq_true rfl) rfl ?_
  obtain ⟨⟨p, hp, rfl⟩, N, hN, h1, hM⟩ := hs
  unfold fRe_mostOf17 re_N
  rw [hM, pm_cl4 (show N ≤ 1000 by omega), pm_cl4 (show p ≤ 1000 by omega)]
  have e0 : (24 * nI p).toNatClampNeg = 24 * p ∧ vp_in (24 * nI p) 96 := by
    have : ∀ p : Fin 4, (24 * nI p.val).toNatClampNeg = 24 * p.val ∧ vp_in (24 * nI p.val) 96 := by
      unfold vp_in
      decide +kernel
    exact this ⟨p, hp⟩
  refine bRe_mostOf17_0 e0.2 ?_
  rw [e0.1]
  refine pm_upto (N := N - 1) (P := fun i => pm_G mRe_mostOf 10 [some (pm_r 12 0), some (pm_r 17 0), some (pm_i (nI p)), some (pm_i (re_max (fun row => M.1 17 0 (24 * p + row)) i)), some (pm_i (nI (i + 1)))] [] M (pm_D (some (pm_i (re_max (fun row => M.1 17 0 (24 * p + row)) (N - 1)))) M)) ?_ ?_ 0 (Nat.zero_le _)
  · rw [show N - 1 + 1 = N by omega]
    exact bRe_mostOf17_10 (fun _ => bRe_mostOf17_39 ⟨rfl, rfl⟩) (fun h => absurd (pm_yle hM (by omega)) h)
  · intro i hi k2
    refine bRe_mostOf17_10 (fun h => absurd h (pm_nle hM (by omega) (by omega))) (fun _ => bRe_mostOf17_19 (re_ix24 hp (by omega)).2 (bRe_mostOf17_32 ?_))
    rw [(re_ix24 hp (show i + 1 < 24 by omega)).1, nI_1]
    exact k2

def fRe_mostOf18 (a2 : Int32) (M : pm_M) : Int32 := re_max (fun row => M.1 18 0 (24 * a2.toNatClampNeg + row)) (re_N M - 1)
theorem eRe_mostOf18 {a2 : Int32} {M : pm_M} (hs : sRe_rows a2 M) : pm_Ev mRe_mostOf [pm_r 12 0, pm_r 18 0, pm_i a2] M (some (pm_i (fRe_mostOf18 a2 M))) M := by
  refine pm_Sem_of (ls := [some (pm_r 12 0), some (pm_r 18 0), some (pm_i a2), none, none]) ok_mRe_mostOf (by decide +kernel) rfl (by decide) (Nat.le_of_ble_eq_true rfl) rfl ?_
  obtain ⟨⟨p, hp, rfl⟩, N, hN, h1, hM⟩ := hs
  unfold fRe_mostOf18 re_N
  rw [hM, pm_cl4 (show N ≤ 1000 by omega), pm_cl4 (show p ≤ 1000 by omega)]
  have e0 : (24 * nI p).toNatClampNeg = 24 * p ∧ vp_in (24 * nI p) 96 := by
    have : ∀ p : Fin 4, (24 * nI p.val).toNatClampNeg = 24 * p.val ∧ vp_in (24 * nI p.val) 96 := by
      unfold vp_in
      decide +kernel
    exact this ⟨p, hp⟩
  refine bRe_mostOf18_0 e0.2 ?_
  rw [e0.1]
  refine pm_upto (N := N - 1) (P := fun i => pm_G mRe_mostOf 10 [some (pm_r 12 0), some (pm_r 18 0), some (pm_i (nI p)), some (pm_i (re_max (fun row => M.1 18 0 (24 * p + row)) i)), some (pm_i (nI (i + 1)))] [] M (pm_D (some (pm_i (re_max (fun row => M.1 18 0 (24 * p + row)) (N - 1)))) M)) ?_ ?_ 0 (Nat.zero_le _)
  · rw [show N - 1 + 1 = N by omega]
    exact bRe_mostOf18_10 (fun _ => bRe_mostOf18_39 ⟨rfl, rfl⟩) (fun h => absurd (pm_yle hM (by omega)) h)
  · intro i hi k2
    refine bRe_mostOf18_10 (fun h => absurd h (pm_nle hM (by omega) (by omega))) (fun _ => bRe_mostOf18_19 (re_ix24 hp (by omega)).2 (bRe_mostOf18_32 ?_))
    rw [(re_ix24 hp (show i + 1 < 24 by omega)).1, nI_1]
    exact k2

def fRe_leastGain (a1 : Int32) (M : pm_M) : Int32 := fRe_leastOf17 a1 M + fRe_leastOf18 a1 M
def fRe_mostGain (a1 : Int32) (M : pm_M) : Int32 := fRe_mostOf17 a1 M + fRe_mostOf18 a1 M
def fRe_mostByFees (a1 : Int32) (M : pm_M) : Int32 := fRe_mostOf17 a1 M
def sRe_leastGain (a1 : Int32) (M : pm_M) : Prop := sRe_rows a1 M
def sRe_mostGain (a1 : Int32) (M : pm_M) : Prop := sRe_rows a1 M
def sRe_mostByFees (a1 : Int32) (M : pm_M) : Prop := sRe_rows a1 M
theorem eRe_leastGain {a1 : Int32} {M : pm_M} (hs : sRe_leastGain a1 M) : pm_Ev mRe_leastGain [pm_r 12 0, pm_i a1] M (some (pm_i (fRe_leastGain a1 M))) M := by
  refine pm_Sem_of (ls := [some (pm_r 12 0), some (pm_i a1)]) ok_mRe_leastGain (by decide +kernel) rfl (by decide) (Nat.le_of_ble_eq_true rfl) rfl ?_
  exact bRe_leastGain_0 (eRe_leastOf17 hs) (bRe_leastGain_9 (eRe_leastOf18 hs) (bRe_leastGain_18 ⟨rfl, rfl⟩))
theorem eRe_mostGain {a1 : Int32} {M : pm_M} (hs : sRe_mostGain a1 M) : pm_Ev mRe_mostGain [pm_r 12 0, pm_i a1] M (some (pm_i (fRe_mostGain a1 M))) M := by
  refine pm_Sem_of (ls := [some (pm_r 12 0), some (pm_i a1)]) ok_mRe_mostGain (by decide +kernel) rfl (by decide) (Nat.le_of_ble_eq_true rfl) rfl ?_
  exact bRe_mostGain_0 (eRe_mostOf17 hs) (bRe_mostGain_9 (eRe_mostOf18 hs) (bRe_mostGain_18 ⟨rfl, rfl⟩))
theorem eRe_mostByFees {a1 : Int32} {M : pm_M} (hs : sRe_mostByFees a1 M) : pm_Ev mRe_mostByFees [pm_r 12 0, pm_i a1] M (some (pm_i (fRe_mostByFees a1 M))) M := by
  refine pm_Sem_of (ls := [some (pm_r 12 0), some (pm_i a1)]) ok_mRe_mostByFees (by decide +kernel) rfl (by decide) (Nat.le_of_ble_eq_true rfl) rfl ?_
  exact bRe_mostByFees_0 (eRe_mostOf17 hs) (bRe_mostByFees_9 ⟨rfl, rfl⟩)
/-- bits of the tickets that some rows begin with -/
def re_or (c : Nat → Bool) (g : Nat → Nat) : Nat → Nat
  | 0 => 0
  | n + 1 => if c n = true then re_or c g n ||| 2 ^ g n else re_or c g n
theorem re_or_lt {c : Nat → Bool} {g : Nat → Nat} (hg : ∀ i, c i = true → g i < 4) : ∀ n, re_or c g n < 16
  | 0 => by show 0 < 16; decide
  | n + 1 => by
    rw [re_or]
    split
    · rename_i h
      have h1 := re_or_lt hg n
      have h2 : 2 ^ g n < 16 := by
        have := Nat.pow_le_pow_right (show 0 < 2 by omega) (show g n ≤ 3 by have := hg n h; omega)
        omega
      exact Nat.or_lt_two_pow (n := 4) h1 h2
    · exact re_or_lt hg n
theorem re_or_I {b t : Nat} (hb : b < 16) (ht : t < 4) : nI b ||| ((1 : Int32) <<< (nI t &&& 31)) = nI (b ||| 2 ^ t) := (by decide +kernel : ∀ b : Fin 16, ∀ t : Fin 4, nI b.val ||| ((1 : Int32) <<< (nI t.val &&& 31)) = nI (b.val ||| 2 ^ t.val)) ⟨b, hb⟩ ⟨t, ht⟩
def fRe_firstToMost (a1 : Int32) (M : pm_M) : Int32 := if M.1 12 0 0 ≤ 0 then 0 else nI (re_or (fun row => decide (row < 24) && decide (M.1 17 0 (24 * a1.toNatClampNeg + row) = fRe_mostByFees a1 M)) (fun row => (M.1 13 0 (re_ord row 0)).toNatClampNeg) (re_N M))
def sRe_firstToMost (a1 : Int32) (M : pm_M) : Prop := sRe_rows a1 M ∧ ∃ n, n ≤ 4 ∧ M.1 12 0 0 = nI n ∧ M.1 12 0 1 = nI (md_fact n) ∧ ∀ i, i < n → ∃ t, t < 4 ∧ M.1 13 0 i = nI t
theorem eRe_firstToMost {a1 : Int32} {M : pm_M} (hs : sRe_firstToMost a1 M) : pm_Ev mRe_firstToMost [pm_r 12 0, pm_i a1] M (some (pm_i (fRe_firstToMost a1 M))) M := by
  refine pm_Sem_of (ls := [some (pm_r 12 0), some (pm_i a1), none, none, none]) ok_mRe_firstToMost (by decide +kernel) rfl (by decide) (Nat.le_of_ble_eq_true rfl) rfl ?_
  obtain ⟨hr, n, hn, h0, h1, ht⟩ := hs
  refine bRe_firstToMost_0 (eRe_mostByFees hr) (bRe_firstToMost_5 ?_)
  obtain ⟨⟨p, hp, rfl⟩, hsm⟩ := hr
  have hf : md_fact n ≤ 24 := by
    have : ∀ n : Fin 5, md_fact n.val ≤ 24 := by decide
    exact this ⟨n, by omega⟩
  have hN : re_N M = md_fact n := by unfold re_N; rw [h1, pm_cl4 (by omega)]
  unfold fRe_firstToMost
  rw [hN, pm_cl4 (show p ≤ 1000 by omega)]
  generalize hmo : fRe_mostByFees (nI p) M = mo
  by_cases hz : M.1 12 0 0 ≤ 0
  · rw [if_pos hz]
    refine bRe_firstToMost_11 (fun _ => bRe_firstToMost_67 ⟨rfl, rfl⟩) (fun _ => bRe_firstToMost_20 (fun _ => bRe_firstToMost_67 ⟨rfl, rfl⟩) (fun h => absurd hz h))
  · rw [if_neg hz]
    have hn1 : 0 < n := by
      apply Nat.pos_of_ne_zero
      intro h
      subst h
      exact hz (by rw [h0]; decide)
    have hg : ∀ row, row < md_fact n → (M.1 13 0 (re_ord row 0)).toNatClampNeg < 4 ∧ M.1 13 0 (re_ord row 0) = nI (M.1 13 0 (re_ord row 0)).toNatClampNeg := by
      intro row hrow
      obtain ⟨t, h4, h5⟩ := ht _ (re_ord_lt hn hrow hn1).1
      rw [h5, pm_cl4 (by omega)]
      exact ⟨h4, rfl⟩
    generalize hc : (fun row => decide (row < 24) && decide (M.1 17 0 (24 * p + row) = mo)) = c
    generalize hgg : (fun row => (M.1 13 0 (re_ord row 0)).toNatClampNeg) = g
    have hlt : ∀ i, i ≤ md_fact n → re_or c g i < 16 := by
      intro i
      induction i with
      | zero => intro _; show 0 < 16; decide
      | succ i ih =>
        intro hi
        rw [re_or]
        split
        · have h2 : g i < 4 := by rw [← hgg]; exact (hg i (by omega)).1
          have h3 := Nat.pow_le_pow_right (show 0 < 2 by omega) (show g i ≤ 3 by omega)
          exact Nat.or_lt_two_pow (n := 4) (ih (by omega)) (by omega)
        · exact ih (by omega)
    refine pm_upto (N := md_fact n) (P := fun i => pm_G mRe_firstToMost 11 [some (pm_r 12 0), some (pm_i (nI p)), some (pm_i mo), some (pm_i (nI (re_or c g i))), some (pm_i (nI i))] [] M (pm_D (some (pm_i (nI (re_or c g (md_fact n))))) M)) ?_ ?_ 0 (Nat.zero_le _)
    · exact bRe_firstToMost_11 (fun _ => bRe_firstToMost_67 ⟨rfl, rfl⟩) (fun h => absurd (pm_yle h1 (by omega)) h)
    · intro i hi k2
      refine bRe_firstToMost_11 (fun h => absurd h (pm_nle h1 hi (by omega))) (fun _ => bRe_firstToMost_20 (fun h => absurd h hz) (fun _ => ?_))
      have ho := re_ord_lt hn hi hn1
      rw [Nat.add_zero] at ho
      rw [re_or, ← nI_1] at k2
      refine bRe_firstToMost_27 (re_ix24 hp (by omega)).2 (fun h => ?_) (fun h => ?_)
      · rw [(re_ix24 hp (show i < 24 by omega)).1] at h
        have e4 : Int32.toNatClampNeg (4 * nI i) = 4 * i ∧ vp_in (4 * nI i) 96 := by
          have : ∀ i : Fin 24, Int32.toNatClampNeg (4 * nI i.val) = 4 * i.val ∧ vp_in (4 * nI i.val) 96 := by
            unfold vp_in
            decide +kernel
          exact this ⟨i, by omega⟩
        refine bRe_firstToMost_43 e4.2 (by rw [e4.1, ho.2]; exact pm_vin (by omega) (by omega)) (bRe_firstToMost_61 ?_)
        rw [e4.1, ho.2, pm_cl4 (show re_ord i 0 ≤ 1000 by omega), (hg i hi).2, re_or_I (hlt i (by omega)) (hg i hi).1]
        have hci : c i = true := by rw [← hc]; simp [h]; omega
        rw [if_pos hci, ← hgg] at k2
        rw [← hgg]
        exact k2
      · rw [(re_ix24 hp (show i < 24 by omega)).1] at h
        have hci : ¬ c i = true := by rw [← hc]; simp [h]
        rw [if_neg hci] at k2
        exact bRe_firstToMost_61 k2
