/-! the reference: places of its cells -/
theorem md_i0 {u : Nat} (hu : u < 4) : Int32.toNatClampNeg ((4 + (5 * nI u)) + 0) = 4 + 5 * u := (by decide +kernel : ∀ u : Fin 4, Int32.toNatClampNeg ((4 + (5 * nI u.val)) + 0) = 4 + 5 * u.val) ⟨u, hu⟩
theorem md_i1 {u : Nat} (hu : u < 4) : Int32.toNatClampNeg ((4 + (5 * nI u)) + 1) = 5 + 5 * u := (by decide +kernel : ∀ u : Fin 4, Int32.toNatClampNeg ((4 + (5 * nI u.val)) + 1) = 5 + 5 * u.val) ⟨u, hu⟩
theorem md_i2 {u : Nat} (hu : u < 4) : Int32.toNatClampNeg ((4 + (5 * nI u)) + 2) = 6 + 5 * u := (by decide +kernel : ∀ u : Fin 4, Int32.toNatClampNeg ((4 + (5 * nI u.val)) + 2) = 6 + 5 * u.val) ⟨u, hu⟩
theorem md_i3 {u : Nat} (hu : u < 4) : Int32.toNatClampNeg ((4 + (5 * nI u)) + 3) = 7 + 5 * u := (by decide +kernel : ∀ u : Fin 4, Int32.toNatClampNeg ((4 + (5 * nI u.val)) + 3) = 7 + 5 * u.val) ⟨u, hu⟩
theorem md_i4 {u : Nat} (hu : u < 4) : Int32.toNatClampNeg ((4 + (5 * nI u)) + 4) = 8 + 5 * u := (by decide +kernel : ∀ u : Fin 4, Int32.toNatClampNeg ((4 + (5 * nI u.val)) + 4) = 8 + 5 * u.val) ⟨u, hu⟩
theorem md_iP {u : Nat} (hu : u < 4) : Int32.toNatClampNeg (24 + nI u) = 24 + u := (by decide +kernel : ∀ u : Fin 4, Int32.toNatClampNeg (24 + nI u.val) = 24 + u.val) ⟨u, hu⟩
theorem md_iB {u : Nat} (hu : u < 4) : Int32.toNatClampNeg (28 + nI u) = 28 + u := (by decide +kernel : ∀ u : Fin 4, Int32.toNatClampNeg (28 + nI u.val) = 28 + u.val) ⟨u, hu⟩
theorem md_v {u : Nat} (hu : u < 4) : (vp_in ((4 + (5 * nI u)) + 0) 45 ∧ vp_in ((4 + (5 * nI u)) + 1) 45 ∧ vp_in ((4 + (5 * nI u)) + 2) 45 ∧ vp_in ((4 + (5 * nI u)) + 3) 45 ∧ vp_in ((4 + (5 * nI u)) + 4) 45) ∧ vp_in (24 + nI u) 45 ∧ vp_in (28 + nI u) 45 ∧ vp_in ((4 + (5 * nI u)) + 4) 135 ∧ vp_in (24 + nI u) 135 ∧ vp_in (28 + nI u) 135 := by
  have : ∀ u : Fin 4, (vp_in ((4 + (5 * nI u.val)) + 0) 45 ∧ vp_in ((4 + (5 * nI u.val)) + 1) 45 ∧ vp_in ((4 + (5 * nI u.val)) + 2) 45 ∧ vp_in ((4 + (5 * nI u.val)) + 3) 45 ∧ vp_in ((4 + (5 * nI u.val)) + 4) 45) ∧ vp_in (24 + nI u.val) 45 ∧ vp_in (28 + nI u.val) 45 ∧ vp_in ((4 + (5 * nI u.val)) + 4) 135 ∧ vp_in (24 + nI u.val) 135 ∧ vp_in (28 + nI u.val) 135 := by
    unfold vp_in
    decide +kernel
  exact this ⟨u, hu⟩
theorem fMo_of0 {M : pm_M} {f : Nat → Int32} {u : Nat} (hu : u < 4) : fMo_of (nI u) 0 (pm_set M 31 0 f) = f (4 + 5 * u) := by unfold fMo_of; rw [pm_set_at, md_i0 hu]
theorem fMo_of1 {M : pm_M} {f : Nat → Int32} {u : Nat} (hu : u < 4) : fMo_of (nI u) 1 (pm_set M 31 0 f) = f (5 + 5 * u) := by unfold fMo_of; rw [pm_set_at, md_i1 hu]
theorem fMo_of2 {M : pm_M} {f : Nat → Int32} {u : Nat} (hu : u < 4) : fMo_of (nI u) 2 (pm_set M 31 0 f) = f (6 + 5 * u) := by unfold fMo_of; rw [pm_set_at, md_i2 hu]
theorem fMo_of3 {M : pm_M} {f : Nat → Int32} {u : Nat} (hu : u < 4) : fMo_of (nI u) 3 (pm_set M 31 0 f) = f (7 + 5 * u) := by unfold fMo_of; rw [pm_set_at, md_i3 hu]
theorem fMo_of4 {M : pm_M} {f : Nat → Int32} {u : Nat} (hu : u < 4) : fMo_of (nI u) 4 (pm_set M 31 0 f) = f (8 + 5 * u) := by unfold fMo_of; rw [pm_set_at, md_i4 hu]
theorem fMo_isInWheel_at {M : pm_M} {f : Nat → Int32} {u : Nat} (hu : u < 4) : fMo_isInWheel (nI u) (pm_set M 31 0 f) = if f (8 + 5 * u) = -4 then 1 else 0 := by unfold fMo_isInWheel; rw [fMo_of4 hu]
/-- so much goes from a to b -/
def md_pay (f : Nat → Int32) (a b : Nat) (m : Int32) : Nat → Int32 := upd (upd f a (f a - m)) b ((upd f a (f a - m)) b + m)
theorem gMo_pays_at {M : pm_M} {f : Nat → Int32} {a b : Nat} {m : Int32} (ha : a < 4) (hb : b < 4) : gMo_pays (nI a) (nI b) m (pm_set M 31 0 f) = pm_set M 31 0 (md_pay f a b m) := by
  unfold gMo_pays md_pay
  simp only [pm_cl4 (show a ≤ 1000 by omega), pm_cl4 (show b ≤ 1000 by omega), pm_set_set, pm_set_at]
theorem md_pay_at (f : Nat → Int32) (a b : Nat) (m : Int32) (y : Nat) : md_pay f a b m y = f y + ((if b = y then m else 0) + (if a = y then -m else 0)) := by
  unfold md_pay upd
  by_cases h1 : b = y
  · subst h1
    by_cases h2 : a = b
    · subst h2
      simp [Int32.sub_eq_add_neg, Int32.add_assoc, Int32.add_left_neg, Int32.add_right_neg]
    · simp [h2, Ne.symm h2]
  · by_cases h2 : a = y
    · subst h2
      simp [h1, Ne.symm h1, Int32.sub_eq_add_neg]
    · simp [h1, h2, Ne.symm h1, Ne.symm h2]
/-- what a day of ticket u brings person x -/
def md_gn (f : Nat → Int32) (u : Nat) (x : Int32) : Int32 := (if f (5 + 5 * u) = x then (if f (4 + 5 * u) = 1 then f (7 + 5 * u) else if f (4 + 5 * u) = 3 then -f (7 + 5 * u) else 0) else 0) + (if f (6 + 5 * u) = x then -(if f (4 + 5 * u) = 1 then f (7 + 5 * u) else if f (4 + 5 * u) = 3 then -f (7 + 5 * u) else 0) else 0)
/-- what person x has when ticket t draws so much -/
def md_sh (f : Nat → Int32) (t : Nat) (much x : Int32) : Int32 :=
  (if f (5 + 5 * t) = x then (if f (4 + 5 * t) = 1 then 0 else if f (4 + 5 * t) = 2 then much - much / 2 else if f (4 + 5 * t) = 3 then much + (if much = 0 then 5 * f (7 + 5 * t) else 0) else much) else 0) + (if f (6 + 5 * t) = x then (if f (4 + 5 * t) = 1 then much else if f (4 + 5 * t) = 2 then much / 2 else if f (4 + 5 * t) = 3 then -(if much = 0 then 5 * f (7 + 5 * t) else 0) else 0) else 0)
def md_day (f : Nat → Int32) (n : Nat) : Nat → Int32 := fun y => if y < 4 then pm_acc (f y) (fun u => if f (8 + 5 * u) = -4 then md_gn f u (nI y) else 0) n else f y
def md_draw (T t j : Nat) (f : Nat → Int32) : Nat → Int32 := fun y => if y < 4 then md_day f T y + md_sh f t (f (24 + j)) (nI y) else if y = 28 + j then nI t else if y = 8 + 5 * t then nI j else f y
/-- owners and others are people -/
def md_tv (f : Nat → Int32) (T : Nat) : Prop := ∀ u, u < T → (∃ a, a < 4 ∧ f (5 + 5 * u) = nI a) ∧ ∃ b, b < 4 ∧ f (6 + 5 * u) = nI b
theorem md_day_hi {f : Nat → Int32} {n y : Nat} (h : 4 ≤ y) : md_day f n y = f y := by unfold md_day; rw [if_neg (by omega)]
theorem pm_upd_step (s d : Nat → Int32) (i : Nat) : upd (fun j => if j < i then s j else d j) i (s i) = (fun j => if j < i + 1 then s j else d j) := by
  funext j
  unfold upd
  by_cases h2 : j = i
  · subst h2
    simp
  · by_cases h1 : j < i
    · have h3 : j < i + 1 := by omega
      simp [h1, h2, h3]
    · have h3 : ¬ j < i + 1 := by omega
      simp [h1, h2, h3]
theorem wMo_starts_2 {M : pm_M} {Q : Option pm_V → pm_M → Prop} (kk : pm_G mMo_starts 26 [some (pm_r 29 0), some (pm_i (nI 45))] [] (pm_set M 31 0 (fun j => if j < 45 then M.1 30 0 j else M.1 31 0 j)) Q) : pm_G mMo_starts 2 [some (pm_r 29 0), some (pm_i 0)] [] M Q := by
  have key := pm_upto (N := 45) (P := fun i => pm_G mMo_starts 2 [some (pm_r 29 0), some (pm_i (nI i))] [] (pm_set M 31 0 (fun j => if j < i then M.1 30 0 j else M.1 31 0 j)) Q) ?_ ?_ 0 (Nat.zero_le _)
  · rw [pm_set_id (M := M) (t := 31) (k := 0) (fun j => by simp)] at key
    exact key
  · exact bMo_starts_2 (fun _ => kk) (fun h => absurd (show nI 45 ≤ nI 45 from (pm_le4 (by omega) (by omega)).mpr (Nat.le_refl _)) h)
  · intro i hi k2
    refine bMo_starts_2 (fun h => ?_) (fun _ => ?_)
    · have := (pm_le4 (a := 45) (b := i) (by omega) (by omega)).mp h
      omega
    · refine bMo_starts_8 (pm_vin (by omega) (by omega)) (pm_vin (by omega) (by omega)) ?_
      rw [pm_cl4 (show i ≤ 1000 by omega), pm_set_set, pm_set_at, pm_set_ne _ _ (by decide), nI_1]
      have e : upd (fun j => if j < i then M.1 30 0 j else M.1 31 0 j) i (M.1 30 0 i) = (fun j => if j < i + 1 then M.1 30 0 j else M.1 31 0 j) := pm_upd_step _ _ i
      rw [e]
      exact k2
theorem wMo_settles_2 {M : pm_M} {Q : Option pm_V → pm_M → Prop} (kk : pm_G mMo_settles 26 [some (pm_r 29 0), some (pm_i (nI 45))] [] (pm_set M 30 0 (fun j => if j < 45 then M.1 31 0 j else M.1 30 0 j)) Q) : pm_G mMo_settles 2 [some (pm_r 29 0), some (pm_i 0)] [] M Q := by
  have key := pm_upto (N := 45) (P := fun i => pm_G mMo_settles 2 [some (pm_r 29 0), some (pm_i (nI i))] [] (pm_set M 30 0 (fun j => if j < i then M.1 31 0 j else M.1 30 0 j)) Q) ?_ ?_ 0 (Nat.zero_le _)
  · rw [pm_set_id (M := M) (t := 30) (k := 0) (fun j => by simp)] at key
    exact key
  · exact bMo_settles_2 (fun _ => kk) (fun h => absurd (show nI 45 ≤ nI 45 from (pm_le4 (by omega) (by omega)).mpr (Nat.le_refl _)) h)
  · intro i hi k2
    refine bMo_settles_2 (fun h => ?_) (fun _ => ?_)
    · have := (pm_le4 (a := 45) (b := i) (by omega) (by omega)).mp h
      omega
    · refine bMo_settles_8 (pm_vin (by omega) (by omega)) (pm_vin (by omega) (by omega)) ?_
      rw [pm_cl4 (show i ≤ 1000 by omega), pm_set_set, pm_set_at, pm_set_ne _ _ (by decide), nI_1]
      have e : upd (fun j => if j < i then M.1 31 0 j else M.1 30 0 j) i (M.1 31 0 i) = (fun j => if j < i + 1 then M.1 31 0 j else M.1 30 0 j) := pm_upd_step _ _ i
      rw [e]
      exact k2
theorem wMo_keepDraft_2 {M : pm_M} {Q : Option pm_V → pm_M → Prop} (kk : pm_G mMo_keepDraft 26 [some (pm_r 29 0), some (pm_i (nI 45))] [] (pm_set M 30 0 (fun j => if j < 45 then M.1 33 0 j else M.1 30 0 j)) Q) : pm_G mMo_keepDraft 2 [some (pm_r 29 0), some (pm_i 0)] [] M Q := by
  have key := pm_upto (N := 45) (P := fun i => pm_G mMo_keepDraft 2 [some (pm_r 29 0), some (pm_i (nI i))] [] (pm_set M 30 0 (fun j => if j < i then M.1 33 0 j else M.1 30 0 j)) Q) ?_ ?_ 0 (Nat.zero_le _)
  · rw [pm_set_id (M := M) (t := 30) (k := 0) (fun j => by simp)] at key
    exact key
  · exact bMo_keepDraft_2 (fun _ => kk) (fun h => absurd (show nI 45 ≤ nI 45 from (pm_le4 (by omega) (by omega)).mpr (Nat.le_refl _)) h)
  · intro i hi k2
    refine bMo_keepDraft_2 (fun h => ?_) (fun _ => ?_)
    · have := (pm_le4 (a := 45) (b := i) (by omega) (by omega)).mp h
      omega
    · refine bMo_keepDraft_8 (pm_vin (by omega) (by omega)) (pm_vin (by omega) (by omega)) ?_
      rw [pm_cl4 (show i ≤ 1000 by omega), pm_set_set, pm_set_at, pm_set_ne _ _ (by decide), nI_1]
      have e : upd (fun j => if j < i then M.1 33 0 j else M.1 30 0 j) i (M.1 33 0 i) = (fun j => if j < i + 1 then M.1 33 0 j else M.1 30 0 j) := pm_upd_step _ _ i
      rw [e]
      exact k2
def gMo_starts (M : pm_M) : pm_M := pm_set M 31 0 (fun j => if j < 45 then M.1 30 0 j else M.1 31 0 j)
theorem eMo_starts {M : pm_M} : pm_Ev mMo_starts [pm_r 29 0] M none (gMo_starts M) := by
  refine pm_Sem_of (ls := [some (pm_r 29 0), none]) ok_mMo_starts (by decide +kernel) rfl (by decide) (Nat.le_of_ble_eq_true rfl) rfl ?_
  exact bMo_starts_0 (wMo_starts_2 (bMo_starts_26 ⟨rfl, rfl⟩))
def gMo_settles (M : pm_M) : pm_M := pm_set M 30 0 (fun j => if j < 45 then M.1 31 0 j else M.1 30 0 j)
theorem eMo_settles {M : pm_M} : pm_Ev mMo_settles [pm_r 29 0] M none (gMo_settles M) := by
  refine pm_Sem_of (ls := [some (pm_r 29 0), none]) ok_mMo_settles (by decide +kernel) rfl (by decide) (Nat.le_of_ble_eq_true rfl) rfl ?_
  exact bMo_settles_0 (wMo_settles_2 (bMo_settles_26 ⟨rfl, rfl⟩))
def sMo_draws_9 (a1 : Int32) (a2 : Int32) (a3 : Int32) (a4 : Int32) (M : pm_M) : Prop := (sMo_isInWheel a4 M ∧ ((((fMo_isInWheel a4 M) = 0 → True) ∧ (¬ ((fMo_isInWheel a4 M) = 0) → (sMo_of a4 0 M ∧ ((((fMo_of a4 0 M) = 1 → (sMo_of a4 2 M ∧ ((sMo_of a4 1 M ∧ ((sMo_of a4 3 M ∧ ((sMo_pays (fMo_of a4 2 M) (fMo_of a4 1 M) (fMo_of a4 3 M) M)))))))) ∧ (¬ ((fMo_of a4 0 M) = 1) → True))))))))
theorem tMo_draws_9 {a1 : Int32} {a2 : Int32} {a3 : Int32} {a4 : Int32} {M : pm_M} {Q : Option pm_V → pm_M → Prop} (hs : sMo_draws_9 a1 a2 a3 a4 M) (kk : pm_G mMo_draws 54 [some (pm_r 29 0), some (pm_i a1), some (pm_i a2), some (pm_i a3), some (pm_i a4), none, none] [] (if (fMo_isInWheel a4 M) = 0 then M else (if (fMo_of a4 0 M) = 1 then (gMo_pays (fMo_of a4 2 M) (fMo_of a4 1 M) (fMo_of a4 3 M) M) else M)) Q) : pm_G mMo_draws 9 [some (pm_r 29 0), some (pm_i a1), some (pm_i a2), some (pm_i a3), some (pm_i a4), none, none] [] M Q := by
  unfold sMo_draws_9 at hs
  refine bMo_draws_9 (eMo_isInWheel (hs.1)) ?_
  refine bMo_draws_15 (fun h1 => ?_) (fun h1 => ?_)
  · try simp only [if_pos h1] at kk
    exact kk
  · try simp only [if_neg h1] at kk
    refine bMo_draws_18 (eMo_of (((hs.2.2 h1)).1)) ?_
    refine bMo_draws_25 (fun h2 => ?_) (fun h2 => ?_)
    · try simp only [if_pos h2] at kk
      refine bMo_draws_29 (eMo_of ((((((hs.2.2 h1)).2).1 h2)).1)) ?_
      refine bMo_draws_37 (eMo_of (((((((hs.2.2 h1)).2).1 h2)).2).1)) ?_
      refine bMo_draws_44 (eMo_of ((((((((hs.2.2 h1)).2).1 h2)).2).2).1)) ?_
      refine bMo_draws_51 (eMo_pays ((((((((hs.2.2 h1)).2).1 h2)).2).2).2)) ?_
      exact kk
    · try simp only [if_neg h2] at kk
      exact kk

def sMo_draws_54 (a1 : Int32) (a2 : Int32) (a3 : Int32) (a4 : Int32) (M : pm_M) : Prop := (sMo_isInWheel a4 M ∧ ((((fMo_isInWheel a4 M) = 0 → True) ∧ (¬ ((fMo_isInWheel a4 M) = 0) → (sMo_of a4 0 M ∧ ((((fMo_of a4 0 M) = 3 → (sMo_of a4 1 M ∧ ((sMo_of a4 2 M ∧ ((sMo_of a4 3 M ∧ ((sMo_pays (fMo_of a4 1 M) (fMo_of a4 2 M) (fMo_of a4 3 M) M)))))))) ∧ (¬ ((fMo_of a4 0 M) = 3) → True))))))))
theorem tMo_draws_54 {a1 : Int32} {a2 : Int32} {a3 : Int32} {a4 : Int32} {M : pm_M} {Q : Option pm_V → pm_M → Prop} (hs : sMo_draws_54 a1 a2 a3 a4 M) (kk : pm_G mMo_draws 3 [some (pm_r 29 0), some (pm_i a1), some (pm_i a2), some (pm_i a3), some (pm_i (a4 + 1)), none, none] [] (if (fMo_isInWheel a4 M) = 0 then M else (if (fMo_of a4 0 M) = 3 then (gMo_pays (fMo_of a4 1 M) (fMo_of a4 2 M) (fMo_of a4 3 M) M) else M)) Q) : pm_G mMo_draws 54 [some (pm_r 29 0), some (pm_i a1), some (pm_i a2), some (pm_i a3), some (pm_i a4), none, none] [] M Q := by
  unfold sMo_draws_54 at hs
  refine bMo_draws_54 (eMo_isInWheel (hs.1)) ?_
  refine bMo_draws_60 (fun h1 => ?_) (fun h1 => ?_)
  · try simp only [if_pos h1] at kk
    refine bMo_draws_99 ?_
    exact kk
  · try simp only [if_neg h1] at kk
    refine bMo_draws_63 (eMo_of (((hs.2.2 h1)).1)) ?_
    refine bMo_draws_70 (fun h2 => ?_) (fun h2 => ?_)
    · try simp only [if_pos h2] at kk
      refine bMo_draws_74 (eMo_of ((((((hs.2.2 h1)).2).1 h2)).1)) ?_
      refine bMo_draws_82 (eMo_of (((((((hs.2.2 h1)).2).1 h2)).2).1)) ?_
      refine bMo_draws_89 (eMo_of ((((((((hs.2.2 h1)).2).1 h2)).2).2).1)) ?_
      refine bMo_draws_96 (eMo_pays ((((((((hs.2.2 h1)).2).1 h2)).2).2).2)) ?_
      refine bMo_draws_99 ?_
      exact kk
    · try simp only [if_neg h2] at kk
      refine bMo_draws_99 ?_
      exact kk

def sMo_draws_105 (a1 : Int32) (a2 : Int32) (a3 : Int32) (a4 : Int32) (M : pm_M) : Prop := (vp_in (24 + a3) 45) ∧ (sMo_of a2 0 M ∧ ((((fMo_of a2 0 M) = 1 → True) ∧ (¬ ((fMo_of a2 0 M) = 1) → (((fMo_of a2 0 M) = 2 → (¬ (2 : Int32) = 0)) ∧ (¬ ((fMo_of a2 0 M) = 2) → True))))))
theorem tMo_draws_105 {a1 : Int32} {a2 : Int32} {a3 : Int32} {a4 : Int32} {M : pm_M} {Q : Option pm_V → pm_M → Prop} (hs : sMo_draws_105 a1 a2 a3 a4 M) (kk : pm_G mMo_draws 149 [some (pm_r 29 0), some (pm_i a1), some (pm_i a2), some (pm_i a3), some (pm_i (M.1 31 0 (Int32.toNatClampNeg (24 + a3)))), some (pm_i (fMo_of a2 0 M)), none] [pm_i (if (fMo_of a2 0 M) = 1 then (M.1 31 0 (Int32.toNatClampNeg (24 + a3))) else (if (fMo_of a2 0 M) = 2 then ((M.1 31 0 (Int32.toNatClampNeg (24 + a3))) / 2) else 0))] M Q) : pm_G mMo_draws 105 [some (pm_r 29 0), some (pm_i a1), some (pm_i a2), some (pm_i a3), some (pm_i a4), none, none] [] M Q := by
  unfold sMo_draws_105 at hs
  refine bMo_draws_105 (hs.1) (eMo_of (hs.2.1)) ?_
  refine bMo_draws_122 (fun h1 => ?_) (fun h1 => ?_)
  · try simp only [if_pos h1] at kk
    refine bMo_draws_130 ?_
    exact kk
  · try simp only [if_neg h1] at kk
    refine bMo_draws_135 (fun h2 => ?_) (fun h2 => ?_)
    · try simp only [if_pos h2] at kk
      refine bMo_draws_141 ((((hs.2.2.2 h1)).1 h2)) ?_
      exact kk
    · try simp only [if_neg h2] at kk
      refine bMo_draws_148 ?_
      exact kk

theorem md_day_step {f : Nat → Int32} {n a b : Nat} (ha : a < 4) (hb : b < 4) (hoa : f (5 + 5 * n) = nI a) (hob : f (6 + 5 * n) = nI b) : (if f (8 + 5 * n) = -4 then (if f (4 + 5 * n) = 1 then md_pay (md_day f n) b a (f (7 + 5 * n)) else if f (4 + 5 * n) = 3 then md_pay (md_day f n) a b (f (7 + 5 * n)) else md_day f n) else md_day f n) = md_day f (n + 1) := by
  have hi : ∀ y, 4 ≤ y → a ≠ y ∧ b ≠ y := fun y hy => ⟨by omega, by omega⟩
  have e : ∀ y, md_day f (n + 1) y = md_day f n y + (if y < 4 then (if f (8 + 5 * n) = -4 then md_gn f n (nI y) else 0) else 0) := by
    intro y
    unfold md_day
    by_cases hy : y < 4
    · simp [hy, pm_acc]
    · simp [hy]
  funext y
  rw [e y]
  by_cases hin : f (8 + 5 * n) = -4
  · simp only [hin, if_true]
    by_cases h1 : f (4 + 5 * n) = 1
    · simp only [h1, if_true]
      rw [md_pay_at]
      by_cases hy : y < 4
      · simp only [hy, if_true]
        unfold md_gn
        rw [hoa, hob, h1]
        simp only [pm_eq4 (show a ≤ 1000 by omega) (show y ≤ 1000 by omega), pm_eq4 (show b ≤ 1000 by omega) (show y ≤ 1000 by omega), if_true]
      · have := hi y (by omega)
        simp [hy, this.1, this.2]
    · by_cases h3 : f (4 + 5 * n) = 3
      · simp only [if_neg h1, if_pos h3]
        rw [md_pay_at]
        by_cases hy : y < 4
        · simp only [hy, if_true]
          unfold md_gn
          rw [hoa, hob, h3]
          rw [if_neg (show ¬ (3 : Int32) = 1 by decide)]
          simp only [pm_eq4 (show a ≤ 1000 by omega) (show y ≤ 1000 by omega), pm_eq4 (show b ≤ 1000 by omega) (show y ≤ 1000 by omega), if_true, Int32.neg_neg]
          rw [Int32.add_comm (if b = y then f (7 + 5 * n) else 0)]
        · have := hi y (by omega)
          simp [hy, this.1, this.2]
      · simp only [h1, h3, if_false]
        unfold md_gn
        simp [h1, h3]
  · simp [hin]
theorem ev_of0 {M : pm_M} {f : Nat → Int32} {u : Nat} (hu : u < 4) : pm_Ev mMo_of [pm_r 29 0, pm_i (nI u), pm_i 0] (pm_set M 31 0 f) (some (pm_i (f (4 + 5 * u)))) (pm_set M 31 0 f) := by
  have := eMo_of (M := pm_set M 31 0 f) (a1 := nI u) (a2 := 0) (md_v hu).1.1
  rw [fMo_of0 hu] at this
  exact this
theorem ev_of1 {M : pm_M} {f : Nat → Int32} {u : Nat} {r : Int32} (hu : u < 4) (hr : f (5 + 5 * u) = r) : pm_Ev mMo_of [pm_r 29 0, pm_i (nI u), pm_i 1] (pm_set M 31 0 f) (some (pm_i r)) (pm_set M 31 0 f) := by
  have := eMo_of (M := pm_set M 31 0 f) (a1 := nI u) (a2 := 1) (md_v hu).1.2.1
  rw [fMo_of1 hu, hr] at this
  exact this
theorem ev_of2 {M : pm_M} {f : Nat → Int32} {u : Nat} {r : Int32} (hu : u < 4) (hr : f (6 + 5 * u) = r) : pm_Ev mMo_of [pm_r 29 0, pm_i (nI u), pm_i 2] (pm_set M 31 0 f) (some (pm_i r)) (pm_set M 31 0 f) := by
  have := eMo_of (M := pm_set M 31 0 f) (a1 := nI u) (a2 := 2) (md_v hu).1.2.2.1
  rw [fMo_of2 hu, hr] at this
  exact this
theorem ev_of3 {M : pm_M} {f : Nat → Int32} {u : Nat} {r : Int32} (hu : u < 4) (hr : f (7 + 5 * u) = r) : pm_Ev mMo_of [pm_r 29 0, pm_i (nI u), pm_i 3] (pm_set M 31 0 f) (some (pm_i r)) (pm_set M 31 0 f) := by
  have := eMo_of (M := pm_set M 31 0 f) (a1 := nI u) (a2 := 3) (md_v hu).1.2.2.2.1
  rw [fMo_of3 hu, hr] at this
  exact this
theorem ev_pays {M : pm_M} {f : Nat → Int32} {a b : Nat} {m : Int32} (ha : a < 4) (hb : b < 4) : pm_Ev mMo_pays [pm_r 29 0, pm_i (nI a), pm_i (nI b), pm_i m] (pm_set M 31 0 f) none (pm_set M 31 0 (md_pay f a b m)) := by
  have := eMo_pays (M := pm_set M 31 0 f) (a1 := nI a) (a2 := nI b) (a3 := m) ⟨pm_vin (by omega) (by omega), pm_vin (by omega) (by omega), pm_vin (by omega) (by omega), pm_vin (by omega) (by omega)⟩
  rw [gMo_pays_at ha hb] at this
  exact this
/-- the prize is paid out -/
def md_pays (g : Nat → Int32) (a b : Nat) (kd pr fe : Int32) : Nat → Int32 :=
  let ot := if kd = 1 then pr else if kd = 2 then pr / 2 else 0
  let g1 := upd g a (g a + (pr - ot))
  let g2 := upd g1 b (g1 b + ot)
  if kd = 3 then (if pr = 0 then md_pay g2 b a (5 * fe) else g2) else g2
theorem md_pays_at (g : Nat → Int32) (a b : Nat) (kd pr fe : Int32) (y : Nat) : md_pays g a b kd pr fe y = g y + ((if a = y then (if kd = 1 then 0 else if kd = 2 then pr - pr / 2 else if kd = 3 then pr + (if pr = 0 then 5 * fe else 0) else pr) else 0) + (if b = y then (if kd = 1 then pr else if kd = 2 then pr / 2 else if kd = 3 then -(if pr = 0 then 5 * fe else 0) else 0) else 0)) := by
  have e2 : ∀ ot : Int32, upd (upd g a (g a + (pr - ot))) b ((upd g a (g a + (pr - ot))) b + ot) y = g y + ((if a = y then pr - ot else 0) + (if b = y then ot else 0)) := by
    intro ot
    unfold upd
    by_cases h1 : b = y
    · subst h1
      by_cases h2 : a = b
      · subst h2
        simp [Int32.add_assoc]
      · simp [h2, Ne.symm h2]
    · by_cases h2 : a = y
      · subst h2
        simp [h1, Ne.symm h1]
      · simp [h1, h2, Ne.symm h1, Ne.symm h2]
  unfold md_pays
  by_cases k1 : kd = 1
  · subst k1
    simp only [if_true, if_neg (show ¬ (1 : Int32) = 3 by decide)]
    rw [e2 pr]
    simp
  · by_cases k2 : kd = 2
    · subst k2
      simp only [if_true, if_neg (show ¬ (2 : Int32) = 1 by decide), if_neg (show ¬ (2 : Int32) = 3 by decide)]
      rw [e2 (pr / 2)]
    · by_cases k3 : kd = 3
      · subst k3
        simp only [if_true, if_neg (show ¬ (3 : Int32) = 1 by decide), if_neg (show ¬ (3 : Int32) = 2 by decide)]
        by_cases k0 : pr = 0
        · subst k0
          simp only [if_true]
          rw [md_pay_at, e2 0]
          by_cases h1 : a = y
          · by_cases h2 : b = y
            · simp [h1, h2]
            · simp [h1, h2]
          · by_cases h2 : b = y
            · simp [h1, h2]
            · simp [h1, h2]
        · simp only [k0, if_false]
          rw [e2 0]
          simp
      · simp only [k1, k2, k3, if_false]
        rw [e2 0]
        simp
def gMo_draws (a1 a2 a3 : Int32) (M : pm_M) : pm_M := pm_set M 31 0 (md_draw a1.toNatClampNeg a2.toNatClampNeg a3.toNatClampNeg (M.1 31 0))
def sMo_draws (a1 a2 a3 : Int32) (M : pm_M) : Prop := ∃ T t j, T ≤ 4 ∧ t < T ∧ j < 4 ∧ a1 = nI T ∧ a2 = nI t ∧ a3 = nI j ∧ md_tv (M.1 31 0) T
set_option maxHeartbeats 1000000 in
theorem ev_draws {M : pm_M} {f : Nat → Int32} {T t j : Nat} (hT : T ≤ 4) (ht : t < T) (hj : j < 4) (hv : md_tv f T) : pm_Ev mMo_draws [pm_r 29 0, pm_i (nI T), pm_i (nI t), pm_i (nI j)] (pm_set M 31 0 f) none (pm_set M 31 0 (md_draw T t j f)) := by
  refine pm_Sem_of (ls := [some (pm_r 29 0), some (pm_i (nI T)), some (pm_i (nI t)), some (pm_i (nI j)), none, none, none]) ok_mMo_draws (by decide +kernel) rfl (by decide) (Nat.le_of_ble_eq_true rfl) rfl ?_
  refine bMo_draws_0 ?_
  have key := pm_upto (N := T) (P := fun i => pm_G mMo_draws 3 [some (pm_r 29 0), some (pm_i (nI T)), some (pm_i (nI t)), some (pm_i (nI j)), some (pm_i (nI i)), none, none] [] (pm_set M 31 0 (md_day f i)) (pm_D none (pm_set M 31 0 (md_draw T t j f)))) ?_ ?_ 0 (Nat.zero_le _)
  · have e : md_day f 0 = f := by
      funext y
      unfold md_day
      by_cases hy : y < 4 <;> simp [hy, pm_acc]
    rw [e] at key
    exact key
  · refine bMo_draws_3 (fun _ => ?_) (fun h => absurd ((pm_le4 (by omega) (by omega)).mpr (Nat.le_refl _)) h)
    have ht4 : t < 4 := by omega
    obtain ⟨⟨a, ha, hoa⟩, ⟨b, hb, hob⟩⟩ := hv t ht
    have d4 : ∀ y, 4 ≤ y → md_day f T y = f y := fun y hy => md_day_hi hy
    refine tMo_draws_105 ⟨(md_v hj).2.1, (md_v ht4).1.1, fun _ => trivial, fun _ => ⟨fun _ => by decide, fun _ => trivial⟩⟩ ?_
    rw [fMo_of0 ht4, pm_set_at, md_iP hj, d4 _ (by omega), d4 _ (by omega)]
    generalize hg : md_day f T = g at d4 ⊢
    generalize hot : (if f (4 + 5 * t) = 1 then f (24 + j) else if f (4 + 5 * t) = 2 then f (24 + j) / 2 else 0) = ot
    have q1 : ∀ x, upd g a x (5 + 5 * t) = nI a := fun x => by unfold upd; rw [if_neg (by omega), d4 _ (by omega), hoa]
    refine bMo_draws_149 (ev_of1 ht4 (by rw [d4 _ (by omega), hoa])) ?_
    refine bMo_draws_161 (M1 := pm_set M 31 0 (upd g a (g a + (f (24 + j) - ot)))) (r := nI b) (pm_vin (by omega) (by omega)) (pm_vin (by omega) (by omega)) ?_ ?_
    · rw [pm_set_set, pm_set_at, pm_cl4 (show a ≤ 1000 by omega)]
      exact ev_of2 ht4 (by unfold upd; rw [if_neg (by omega), d4 _ (by omega), hob])
    · have fin : ∀ g3 : Nat → Int32, g3 = md_pays g a b (f (4 + 5 * t)) (f (24 + j)) (f (7 + 5 * t)) → pm_G mMo_draws 221 [some (pm_r 29 0), some (pm_i (nI T)), some (pm_i (nI t)), some (pm_i (nI j)), some (pm_i (f (24 + j))), some (pm_i (f (4 + 5 * t))), some (pm_i ot)] [] (pm_set M 31 0 g3) (pm_D none (pm_set M 31 0 (md_draw T t j f))) := by
        intro g3 h3
        refine bMo_draws_221 (md_v ht4).1.2.2.2.2 (md_v hj).2.2.1 ⟨rfl, ?_⟩
        rw [pm_set_set, pm_set_set, pm_set_at, pm_set_at, md_i4 ht4, md_iB hj]
        congr 1
        funext y
        have e3 := md_pays_at g a b (f (4 + 5 * t)) (f (24 + j)) (f (7 + 5 * t)) y
        rw [← h3] at e3
        unfold md_draw upd
        by_cases hy : y < 4
        · rw [if_neg (by omega), if_neg (by omega), if_pos hy, e3, hg]
          unfold md_sh
          rw [hoa, hob]
          simp only [pm_eq4 (show a ≤ 1000 by omega) (show y ≤ 1000 by omega), pm_eq4 (show b ≤ 1000 by omega) (show y ≤ 1000 by omega)]
        · rw [if_neg hy]
          by_cases hb9 : y = 28 + j
          · rw [if_pos hb9, if_pos hb9]
          · rw [if_neg hb9, if_neg hb9]
            by_cases ht9 : y = 8 + 5 * t
            · rw [if_pos ht9, if_pos ht9]
            · rw [if_neg ht9, if_neg ht9, e3, if_neg (by omega), if_neg (by omega), d4 _ (by omega)]
              simp
      have e2 : upd (upd g a (g a + (f (24 + j) - ot))) b ((upd g a (g a + (f (24 + j) - ot))) b + ot) = upd (upd g a (g a + (f (24 + j) - ot))) b ((upd g a (g a + (f (24 + j) - ot))) b + ot) := rfl
      refine bMo_draws_180 (pm_vin (by omega) (by omega)) (pm_vin (by omega) (by omega)) (fun h3 => ?_) (fun h3 => ?_)
      · rw [pm_set_set, pm_set_at, pm_cl4 (show b ≤ 1000 by omega)]
        refine bMo_draws_192 (fun h0 => ?_) (fun h0 => ?_)
        · refine bMo_draws_197 (ev_of2 (r := nI b) ht4 (by unfold upd; rw [if_neg (by omega), if_neg (by omega), d4 _ (by omega), hob])) ?_
          refine bMo_draws_204 (ev_of1 (r := nI a) ht4 (by unfold upd; rw [if_neg (by omega), if_neg (by omega), d4 _ (by omega), hoa])) ?_
          refine bMo_draws_210 (ev_of3 (r := f (7 + 5 * t)) ht4 (by unfold upd; rw [if_neg (by omega), if_neg (by omega), d4 _ (by omega)])) ?_
          refine bMo_draws_217 (ev_pays hb ha) (fin _ ?_)
          unfold md_pays
          rw [hot]
          simp only [h3, h0, if_true]
        · refine fin _ ?_
          unfold md_pays
          rw [hot]
          simp only [h3, h0, if_true, if_false]
      · rw [pm_set_set, pm_set_at, pm_cl4 (show b ≤ 1000 by omega)]
        refine fin _ ?_
        unfold md_pays
        rw [hot]
        simp only [h3, if_false]
  · intro i hi kk
    have hi4 : i < 4 := by omega
    obtain ⟨⟨a, ha, hoa⟩, ⟨b, hb, hob⟩⟩ := hv i hi
    have d4 : ∀ y, 4 ≤ y → md_day f i y = f y := fun y hy => md_day_hi hy
    refine bMo_draws_3 (fun h => ?_) (fun _ => ?_)
    · have := (pm_le4 (by omega) (by omega)).mp h
      omega
    · refine tMo_draws_9 ⟨(md_v hi4).1.2.2.2.2, fun _ => trivial, fun _ => ⟨(md_v hi4).1.1, fun _ => ⟨(md_v hi4).1.2.2.1, (md_v hi4).1.2.1, (md_v hi4).1.2.2.2.1, ?_⟩, fun _ => trivial⟩⟩ ?_
      · rw [fMo_of1 hi4, fMo_of2 hi4, d4 _ (by omega), d4 _ (by omega), hoa, hob]
        exact ⟨pm_vin (by omega) (by omega), pm_vin (by omega) (by omega), pm_vin (by omega) (by omega), pm_vin (by omega) (by omega)⟩
      · rw [fMo_isInWheel_at hi4, fMo_of0 hi4, fMo_of1 hi4, fMo_of2 hi4, fMo_of3 hi4, d4 _ (by omega), d4 _ (by omega), d4 _ (by omega), d4 _ (by omega), d4 _ (by omega), hoa, hob, gMo_pays_at hb ha]
        have m1 : (if (if f (8 + 5 * i) = -4 then (1 : Int32) else 0) = 0 then pm_set M 31 0 (md_day f i) else if f (4 + 5 * i) = 1 then pm_set M 31 0 (md_pay (md_day f i) b a (f (7 + 5 * i))) else pm_set M 31 0 (md_day f i)) = pm_set M 31 0 (if f (8 + 5 * i) = -4 ∧ f (4 + 5 * i) = 1 then md_pay (md_day f i) b a (f (7 + 5 * i)) else md_day f i) := by
          by_cases h1 : f (8 + 5 * i) = -4
          · by_cases h2 : f (4 + 5 * i) = 1
            · simp [h1, h2]
            · simp [h1, h2]
          · simp [h1]
        rw [m1]
        generalize hg : (if f (8 + 5 * i) = -4 ∧ f (4 + 5 * i) = 1 then md_pay (md_day f i) b a (f (7 + 5 * i)) else md_day f i) = g
        have g4 : ∀ y, 4 ≤ y → g y = f y := by
          intro y hy
          rw [← hg]
          by_cases h1 : f (8 + 5 * i) = -4 ∧ f (4 + 5 * i) = 1
          · rw [if_pos h1, md_pay_at, d4 _ hy, if_neg (by omega), if_neg (by omega)]
            simp
          · rw [if_neg h1, d4 _ hy]
        refine tMo_draws_54 ⟨(md_v hi4).1.2.2.2.2, fun _ => trivial, fun _ => ⟨(md_v hi4).1.1, fun _ => ⟨(md_v hi4).1.2.1, (md_v hi4).1.2.2.1, (md_v hi4).1.2.2.2.1, ?_⟩, fun _ => trivial⟩⟩ ?_
        · rw [fMo_of1 hi4, fMo_of2 hi4, g4 _ (by omega), g4 _ (by omega), hoa, hob]
          exact ⟨pm_vin (by omega) (by omega), pm_vin (by omega) (by omega), pm_vin (by omega) (by omega), pm_vin (by omega) (by omega)⟩
        · rw [fMo_isInWheel_at hi4, fMo_of0 hi4, fMo_of1 hi4, fMo_of2 hi4, fMo_of3 hi4, g4 _ (by omega), g4 _ (by omega), g4 _ (by omega), g4 _ (by omega), g4 _ (by omega), hoa, hob, gMo_pays_at ha hb, nI_1]
          have m2 : (if (if f (8 + 5 * i) = -4 then (1 : Int32) else 0) = 0 then pm_set M 31 0 g else if f (4 + 5 * i) = 3 then pm_set M 31 0 (md_pay g a b (f (7 + 5 * i))) else pm_set M 31 0 g) = pm_set M 31 0 (md_day f (i + 1)) := by
            rw [← md_day_step ha hb hoa hob, ← hg]
            by_cases h1 : f (8 + 5 * i) = -4
            · by_cases h2 : f (4 + 5 * i) = 1
              · simp [h1, h2]
              · by_cases h3 : f (4 + 5 * i) = 3
                · simp [h1, h3]
                · simp [h1, h2, h3]
            · simp [h1]
          rw [m2]
          exact kk
theorem eMo_draws {a1 a2 a3 : Int32} {M : pm_M} (hs : sMo_draws a1 a2 a3 M) : pm_Ev mMo_draws [pm_r 29 0, pm_i a1, pm_i a2, pm_i a3] M none (gMo_draws a1 a2 a3 M) := by
  obtain ⟨T, t, j, hT, ht, hj, rfl, rfl, rfl, hv⟩ := hs
  have := ev_draws (M := M) hT ht hj hv
  unfold gMo_draws
  rw [pm_cl4 (show T ≤ 1000 by omega), pm_cl4 (show t ≤ 1000 by omega), pm_cl4 (show j ≤ 1000 by omega)]
  rw [pm_set_self] at this
  exact this
