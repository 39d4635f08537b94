/-! rows on memories and small numbers -/
theorem pm_set_self (M : pm_M) (t k : Nat) : pm_set M t k (M.1 t k) = M := by
  unfold pm_set
  refine Prod.ext (funext fun a => funext fun b => ?_) rfl
  by_cases h : a = t ∧ b = k
  · obtain ⟨rfl, rfl⟩ := h
    simp
  · simp [h]
theorem pm_set_set (M : pm_M) (t k : Nat) (f g : Nat → Int32) : pm_set (pm_set M t k f) t k g = pm_set M t k g := by
  unfold pm_set
  refine Prod.ext (funext fun a => funext fun b => ?_) rfl
  by_cases h : a = t ∧ b = k
  · simp [h]
  · simp [h]
theorem pm_set_id {M : pm_M} {t k : Nat} {f : Nat → Int32} (h : ∀ j, f j = M.1 t k j) : pm_set M t k f = M := by
  rw [show f = M.1 t k from funext h, pm_set_self]
def pm_small (x : Int32) : Prop := ∃ n : Nat, n ≤ 4 ∧ x = nI n
theorem pm_le4 {a b : Nat} (ha : a ≤ 1000) (hb : b ≤ 1000) : (nI a ≤ nI b) ↔ a ≤ b := nI_leI (by omega) (by omega)
theorem pm_lt4 {a b : Nat} (ha : a ≤ 1000) (hb : b ≤ 1000) : (nI a < nI b) ↔ a < b := nI_ltI (by omega) (by omega)
theorem pm_eq4 {a b : Nat} (ha : a ≤ 1000) (hb : b ≤ 1000) : (nI a = nI b) ↔ a = b := nI_eq (by omega) (by omega)
theorem pm_cl4 {a : Nat} (ha : a ≤ 1000) : (nI a).toNatClampNeg = a := nI_clamp (by omega)
theorem pm_vin {a n : Nat} (h : a < n) (hn : n ≤ 1000) : vp_in (nI a) n := vp_in_nI h (by omega)
theorem pm_pos4 {a : Nat} (ha : a ≤ 1000) : ¬ nI a < 0 := nI_pos (by omega)
/-- the bits of what holds below n -/
def pm_bits (p : Nat → Bool) : Nat → Nat
  | 0 => 0
  | n + 1 => pm_bits p n + (if p n = true then 2 ^ n else 0)
theorem pm_bits_lt (p : Nat → Bool) : ∀ n, pm_bits p n < 2 ^ n
  | 0 => by simp [pm_bits]
  | n + 1 => by
    have := pm_bits_lt p n
    rw [pm_bits, Nat.pow_succ]
    split <;> omega
theorem pm_or0 : ∀ i : Fin 4, ∀ b : Fin 8, b.val < 2 ^ i.val → nI b.val ||| ((1 : Int32) <<< (nI i.val &&& 31)) = nI (b.val + 2 ^ i.val) := by decide +kernel
theorem pm_or1 {i b : Nat} (hi : i < 4) (hb : b < 2 ^ i) : nI b ||| ((1 : Int32) <<< (nI i &&& 31)) = nI (b + 2 ^ i) := by
  have h8 : b < 8 := by
    have : 2 ^ i ≤ 2 ^ 3 := Nat.pow_le_pow_right (by omega) (by omega)
    omega
  exact pm_or0 ⟨i, hi⟩ ⟨b, h8⟩ hb
def pm_sumI (g : Nat → Int32) : Nat → Int32
  | 0 => 0
  | n + 1 => pm_sumI g n + g n
def pm_acc (b : Int32) (g : Nat → Int32) : Nat → Int32
  | 0 => b
  | n + 1 => pm_acc b g n + g n
/-! Arrays.fill -/
def gAr_fill2 (a1 : Int32) (M : pm_M) : pm_M := pm_set M 2 0 (fun j => if j < 2 then a1 else M.1 2 0 j)
theorem eAr_fill2 {a1 : Int32} {M : pm_M} : pm_Ev mAr_fill [pm_r 2 0, pm_i a1] M none (gAr_fill2 a1 M) := by
  refine pm_Sem_of (ls := [some (pm_r 2 0), some (pm_i a1), none, none]) ok_mAr_fill (by decide +kernel) rfl (by decide) (Nat.le_of_ble_eq_true rfl) rfl ?_
  unfold gAr_fill2
  refine bAr_fill2_0 ?_
  have key := pm_upto (N := 2) (P := fun i => pm_G mAr_fill 5 [some (pm_r 2 0), some (pm_i a1), some (pm_i (nI i)), some (pm_i 2)] [] (pm_set M 2 0 (fun j => if j < i then a1 else M.1 2 0 j)) (pm_D none (pm_set M 2 0 (fun j => if j < 2 then a1 else M.1 2 0 j)))) ?_ ?_ 0 (Nat.zero_le _)
  · rw [pm_set_id (M := M) (t := 2) (k := 0) (fun j => by simp)] at key
    exact key
  · exact bAr_fill2_5 (fun _ => bAr_fill2_20 ⟨rfl, rfl⟩) (fun h => absurd (show nI 2 ≤ nI 2 from (pm_le4 (by omega) (by omega)).mpr (Nat.le_refl _)) h)
  · intro i hi kk
    refine bAr_fill2_5 (fun h => ?_) (fun _ => ?_)
    · have := (pm_le4 (a := 2) (b := i) (by omega) (by omega)).mp h
      omega
    · refine bAr_fill2_10 (pm_vin hi (by omega)) ?_
      rw [pm_cl4 (show i ≤ 1000 by omega), pm_set_set, pm_set_at, nI_1]
      have e : upd (fun j => if j < i then a1 else M.1 2 0 j) i a1 = (fun j => if j < i + 1 then a1 else M.1 2 0 j) := by
        funext j
        unfold upd
        by_cases h2 : j = i
        · subst h2
          simp
        · by_cases h1 : j < i
          · have h3 : j < i + 1 := by omega
            simp [h1, h2, h3]
          · have h3 : ¬ j < i + 1 := by omega
            simp [h1, h2, h3]
      rw [e]
      exact kk
def gAr_fill7 (k0 : Nat) (a1 : Int32) (M : pm_M) : pm_M := pm_set M 7 k0 (fun j => if j < 4 then a1 else M.1 7 k0 j)
theorem eAr_fill7 {k0 : Nat} {a1 : Int32} {M : pm_M} : pm_Ev mAr_fill [pm_r 7 k0, pm_i a1] M none (gAr_fill7 k0 a1 M) := by
  refine pm_Sem_of (ls := [some (pm_r 7 k0), some (pm_i a1), none, none]) ok_mAr_fill (by decide +kernel) rfl (by decide) (Nat.le_of_ble_eq_true rfl) rfl ?_
  unfold gAr_fill7
  refine bAr_fill7_0 ?_
  have key := pm_upto (N := 4) (P := fun i => pm_G mAr_fill 5 [some (pm_r 7 k0), some (pm_i a1), some (pm_i (nI i)), some (pm_i 4)] [] (pm_set M 7 k0 (fun j => if j < i then a1 else M.1 7 k0 j)) (pm_D none (pm_set M 7 k0 (fun j => if j < 4 then a1 else M.1 7 k0 j)))) ?_ ?_ 0 (Nat.zero_le _)
  · rw [pm_set_id (M := M) (t := 7) (k := k0) (fun j => by simp)] at key
    exact key
  · exact bAr_fill7_5 (fun _ => bAr_fill7_20 ⟨rfl, rfl⟩) (fun h => absurd (show nI 4 ≤ nI 4 from (pm_le4 (by omega) (by omega)).mpr (Nat.le_refl _)) h)
  · intro i hi kk
    refine bAr_fill7_5 (fun h => ?_) (fun _ => ?_)
    · have := (pm_le4 (a := 4) (b := i) (by omega) (by omega)).mp h
      omega
    · refine bAr_fill7_10 (pm_vin hi (by omega)) ?_
      rw [pm_cl4 (show i ≤ 1000 by omega), pm_set_set, pm_set_at, nI_1]
      have e : upd (fun j => if j < i then a1 else M.1 7 k0 j) i a1 = (fun j => if j < i + 1 then a1 else M.1 7 k0 j) := by
        funext j
        unfold upd
        by_cases h2 : j = i
        · subst h2
          simp
        · by_cases h1 : j < i
          · have h3 : j < i + 1 := by omega
            simp [h1, h2, h3]
          · have h3 : ¬ j < i + 1 := by omega
            simp [h1, h2, h3]
      rw [e]
      exact kk
def gAr_fill8 (k0 : Nat) (a1 : Int32) (M : pm_M) : pm_M := pm_set M 8 k0 (fun j => if j < 4 then a1 else M.1 8 k0 j)
theorem eAr_fill8 {k0 : Nat} {a1 : Int32} {M : pm_M} : pm_Ev mAr_fill [pm_r 8 k0, pm_i a1] M none (gAr_fill8 k0 a1 M) := by
  refine pm_Sem_of (ls := [some (pm_r 8 k0), some (pm_i a1), none, none]) ok_mAr_fill (by decide +kernel) rfl (by decide) (Nat.le_of_ble_eq_true rfl) rfl ?_
  unfold gAr_fill8
  refine bAr_fill8_0 ?_
  have key := pm_upto (N := 4) (P := fun i => pm_G mAr_fill 5 [some (pm_r 8 k0), some (pm_i a1), some (pm_i (nI i)), some (pm_i 4)] [] (pm_set M 8 k0 (fun j => if j < i then a1 else M.1 8 k0 j)) (pm_D none (pm_set M 8 k0 (fun j => if j < 4 then a1 else M.1 8 k0 j)))) ?_ ?_ 0 (Nat.zero_le _)
  · rw [pm_set_id (M := M) (t := 8) (k := k0) (fun j => by simp)] at key
    exact key
  · exact bAr_fill8_5 (fun _ => bAr_fill8_20 ⟨rfl, rfl⟩) (fun h => absurd (show nI 4 ≤ nI 4 from (pm_le4 (by omega) (by omega)).mpr (Nat.le_refl _)) h)
  · intro i hi kk
    refine bAr_fill8_5 (fun h => ?_) (fun _ => ?_)
    · have := (pm_le4 (a := 4) (b := i) (by omega) (by omega)).mp h
      omega
    · refine bAr_fill8_10 (pm_vin hi (by omega)) ?_
      rw [pm_cl4 (show i ≤ 1000 by omega), pm_set_set, pm_set_at, nI_1]
      have e : upd (fun j => if j < i then a1 else M.1 8 k0 j) i a1 = (fun j => if j < i + 1 then a1 else M.1 8 k0 j) := by
        funext j
        unfold upd
        by_cases h2 : j = i
        · subst h2
          simp
        · by_cases h1 : j < i
          · have h3 : j < i + 1 := by omega
            simp [h1, h2, h3]
          · have h3 : ¬ j < i + 1 := by omega
            simp [h1, h2, h3]
      rw [e]
      exact kk
def gAr_fill9 (k0 : Nat) (a1 : Int32) (M : pm_M) : pm_M := pm_set M 9 k0 (fun j => if j < 4 then a1 else M.1 9 k0 j)
theorem eAr_fill9 {k0 : Nat} {a1 : Int32} {M : pm_M} : pm_Ev mAr_fill [pm_r 9 k0, pm_i a1] M none (gAr_fill9 k0 a1 M) := by
  refine pm_Sem_of (ls := [some (pm_r 9 k0), some (pm_i a1), none, none]) ok_mAr_fill (by decide +kernel) rfl (by decide) (Nat.le_of_ble_eq_true rfl) rfl ?_
  unfold gAr_fill9
  refine bAr_fill9_0 ?_
  have key := pm_upto (N := 4) (P := fun i => pm_G mAr_fill 5 [some (pm_r 9 k0), some (pm_i a1), some (pm_i (nI i)), some (pm_i 4)] [] (pm_set M 9 k0 (fun j => if j < i then a1 else M.1 9 k0 j)) (pm_D none (pm_set M 9 k0 (fun j => if j < 4 then a1 else M.1 9 k0 j)))) ?_ ?_ 0 (Nat.zero_le _)
  · rw [pm_set_id (M := M) (t := 9) (k := k0) (fun j => by simp)] at key
    exact key
  · exact bAr_fill9_5 (fun _ => bAr_fill9_20 ⟨rfl, rfl⟩) (fun h => absurd (show nI 4 ≤ nI 4 from (pm_le4 (by omega) (by omega)).mpr (Nat.le_refl _)) h)
  · intro i hi kk
    refine bAr_fill9_5 (fun h => ?_) (fun _ => ?_)
    · have := (pm_le4 (a := 4) (b := i) (by omega) (by omega)).mp h
      omega
    · refine bAr_fill9_10 (pm_vin hi (by omega)) ?_
      rw [pm_cl4 (show i ≤ 1000 by omega), pm_set_set, pm_set_at, nI_1]
      have e : upd (fun j => if j < i then a1 else M.1 9 k0 j) i a1 = (fun j => if j < i + 1 then a1 else M.1 9 k0 j) := by
        funext j
        unfold upd
        by_cases h2 : j = i
        · subst h2
          simp
        · by_cases h1 : j < i
          · have h3 : j < i + 1 := by omega
            simp [h1, h2, h3]
          · have h3 : ¬ j < i + 1 := by omega
            simp [h1, h2, h3]
      rw [e]
      exact kk
def gAr_fill19 (a1 : Int32) (M : pm_M) : pm_M := pm_set M 19 0 (fun j => if j < 4 then a1 else M.1 19 0 j)
theorem eAr_fill19 {a1 : Int32} {M : pm_M} : pm_Ev mAr_fill [pm_r 19 0, pm_i a1] M none (gAr_fill19 a1 M) := by
  refine pm_Sem_of (ls := [some (pm_r 19 0), some (pm_i a1), none, none]) ok_mAr_fill (by decide +kernel) rfl (by decide) (Nat.le_of_ble_eq_true rfl) rfl ?_
  unfold gAr_fill19
  refine bAr_fill19_0 ?_
  have key := pm_upto (N := 4) (P := fun i => pm_G mAr_fill 5 [some (pm_r 19 0), some (pm_i a1), some (pm_i (nI i)), some (pm_i 4)] [] (pm_set M 19 0 (fun j => if j < i then a1 else M.1 19 0 j)) (pm_D none (pm_set M 19 0 (fun j => if j < 4 then a1 else M.1 19 0 j)))) ?_ ?_ 0 (Nat.zero_le _)
  · rw [pm_set_id (M := M) (t := 19) (k := 0) (fun j => by simp)] at key
    exact key
  · exact bAr_fill19_5 (fun _ => bAr_fill19_20 ⟨rfl, rfl⟩) (fun h => absurd (show nI 4 ≤ nI 4 from (pm_le4 (by omega) (by omega)).mpr (Nat.le_refl _)) h)
  · intro i hi kk
    refine bAr_fill19_5 (fun h => ?_) (fun _ => ?_)
    · have := (pm_le4 (a := 4) (b := i) (by omega) (by omega)).mp h
      omega
    · refine bAr_fill19_10 (pm_vin hi (by omega)) ?_
      rw [pm_cl4 (show i ≤ 1000 by omega), pm_set_set, pm_set_at, nI_1]
      have e : upd (fun j => if j < i then a1 else M.1 19 0 j) i a1 = (fun j => if j < i + 1 then a1 else M.1 19 0 j) := by
        funext j
        unfold upd
        by_cases h2 : j = i
        · subst h2
          simp
        · by_cases h1 : j < i
          · have h3 : j < i + 1 := by omega
            simp [h1, h2, h3]
          · have h3 : ¬ j < i + 1 := by omega
            simp [h1, h2, h3]
      rw [e]
      exact kk
def gAr_fill20 (a1 : Int32) (M : pm_M) : pm_M := pm_set M 20 0 (fun j => if j < 16 then a1 else M.1 20 0 j)
theorem eAr_fill20 {a1 : Int32} {M : pm_M} : pm_Ev mAr_fill [pm_r 20 0, pm_i a1] M none (gAr_fill20 a1 M) := by
  refine pm_Sem_of (ls := [some (pm_r 20 0), some (pm_i a1), none, none]) ok_mAr_fill (by decide +kernel) rfl (by decide) (Nat.le_of_ble_eq_true rfl) rfl ?_
  unfold gAr_fill20
  refine bAr_fill20_0 ?_
  have key := pm_upto (N := 16) (P := fun i => pm_G mAr_fill 5 [some (pm_r 20 0), some (pm_i a1), some (pm_i (nI i)), some (pm_i 16)] [] (pm_set M 20 0 (fun j => if j < i then a1 else M.1 20 0 j)) (pm_D none (pm_set M 20 0 (fun j => if j < 16 then a1 else M.1 20 0 j)))) ?_ ?_ 0 (Nat.zero_le _)
  · rw [pm_set_id (M := M) (t := 20) (k := 0) (fun j => by simp)] at key
    exact key
  · exact bAr_fill20_5 (fun _ => bAr_fill20_20 ⟨rfl, rfl⟩) (fun h => absurd (show nI 16 ≤ nI 16 from (pm_le4 (by omega) (by omega)).mpr (Nat.le_refl _)) h)
  · intro i hi kk
    refine bAr_fill20_5 (fun h => ?_) (fun _ => ?_)
    · have := (pm_le4 (a := 16) (b := i) (by omega) (by omega)).mp h
      omega
    · refine bAr_fill20_10 (pm_vin hi (by omega)) ?_
      rw [pm_cl4 (show i ≤ 1000 by omega), pm_set_set, pm_set_at, nI_1]
      have e : upd (fun j => if j < i then a1 else M.1 20 0 j) i a1 = (fun j => if j < i + 1 then a1 else M.1 20 0 j) := by
        funext j
        unfold upd
        by_cases h2 : j = i
        · subst h2
          simp
        · by_cases h1 : j < i
          · have h3 : j < i + 1 := by omega
            simp [h1, h2, h3]
          · have h3 : ¬ j < i + 1 := by omega
            simp [h1, h2, h3]
      rw [e]
      exact kk
def gAr_fill28 (k0 : Nat) (a1 : Int32) (M : pm_M) : pm_M := pm_set M 28 k0 (fun j => if j < 40 then a1 else M.1 28 k0 j)
theorem eAr_fill28 {k0 : Nat} {a1 : Int32} {M : pm_M} : pm_Ev mAr_fill [pm_r 28 k0, pm_i a1] M none (gAr_fill28 k0 a1 M) := by
  refine pm_Sem_of (ls := [some (pm_r 28 k0), some (pm_i a1), none, none]) ok_mAr_fill (by decide +kernel) rfl (by decide) (Nat.le_of_ble_eq_true rfl) rfl ?_
  unfold gAr_fill28
  refine bAr_fill28_0 ?_
  have key := pm_upto (N := 40) (P := fun i => pm_G mAr_fill 5 [some (pm_r 28 k0), some (pm_i a1), some (pm_i (nI i)), some (pm_i 40)] [] (pm_set M 28 k0 (fun j => if j < i then a1 else M.1 28 k0 j)) (pm_D none (pm_set M 28 k0 (fun j => if j < 40 then a1 else M.1 28 k0 j)))) ?_ ?_ 0 (Nat.zero_le _)
  · rw [pm_set_id (M := M) (t := 28) (k := k0) (fun j => by simp)] at key
    exact key
  · exact bAr_fill28_5 (fun _ => bAr_fill28_20 ⟨rfl, rfl⟩) (fun h => absurd (show nI 40 ≤ nI 40 from (pm_le4 (by omega) (by omega)).mpr (Nat.le_refl _)) h)
  · intro i hi kk
    refine bAr_fill28_5 (fun h => ?_) (fun _ => ?_)
    · have := (pm_le4 (a := 40) (b := i) (by omega) (by omega)).mp h
      omega
    · refine bAr_fill28_10 (pm_vin hi (by omega)) ?_
      rw [pm_cl4 (show i ≤ 1000 by omega), pm_set_set, pm_set_at, nI_1]
      have e : upd (fun j => if j < i then a1 else M.1 28 k0 j) i a1 = (fun j => if j < i + 1 then a1 else M.1 28 k0 j) := by
        funext j
        unfold upd
        by_cases h2 : j = i
        · subst h2
          simp
        · by_cases h1 : j < i
          · have h3 : j < i + 1 := by omega
            simp [h1, h2, h3]
          · have h3 : ¬ j < i + 1 := by omega
            simp [h1, h2, h3]
      rw [e]
      exact kk
/-! the wheel: reads -/
theorem fWh_hasTicket_at {k : Nat} {M : pm_M} {T i : Nat} (hT : M.1 4 k 1 = nI T) (h4 : T ≤ 4) (hi : i ≤ 1000) : fWh_hasTicket k (nI i) M = if i < T then 1 else 0 := by
  unfold fWh_hasTicket
  rw [if_neg (pm_pos4 hi), hT]
  by_cases h : i < T
  · rw [if_neg (fun q => by have := (pm_le4 (by omega) hi).mp q; omega), if_pos h]
  · rw [if_pos ((pm_le4 (by omega) hi).mpr (by omega)), if_neg h]
theorem fWh_hasPrize_at {k : Nat} {M : pm_M} {T i : Nat} (hT : M.1 4 k 1 = nI T) (h4 : T ≤ 4) (hi : i ≤ 1000) : fWh_hasPrize k (nI i) M = if i < T then 1 else 0 := by
  unfold fWh_hasPrize
  rw [if_neg (pm_pos4 hi), hT]
  by_cases h : i < T
  · rw [if_neg (fun q => by have := (pm_le4 (by omega) hi).mp q; omega), if_pos h]
  · rw [if_pos ((pm_le4 (by omega) hi).mpr (by omega)), if_neg h]
theorem fWh_isTicketIn_at {k : Nat} {M : pm_M} {T i : Nat} (hT : M.1 4 k 1 = nI T) (h4 : T ≤ 4) (hi : i < T) : fWh_isTicketIn k (nI i) M = if M.1 7 k i = -4 then 1 else 0 := by
  unfold fWh_isTicketIn
  rw [fWh_hasTicket_at hT h4 (by omega), if_pos hi, if_neg (by decide), pm_cl4 (by omega)]
theorem sWh_isTicketIn_at {k : Nat} {M : pm_M} {T i : Nat} (hT : M.1 4 k 1 = nI T) (h4 : T ≤ 4) (hi : i < T) : sWh_isTicketIn k (nI i) M := ⟨fun _ => trivial, fun _ => pm_vin (by omega) (by omega)⟩
theorem fWh_isPrizeIn_at {k : Nat} {M : pm_M} {T i : Nat} (hT : M.1 4 k 1 = nI T) (h4 : T ≤ 4) (hi : i < T) : fWh_isPrizeIn k (nI i) M = if M.1 9 k i = -4 then 1 else 0 := by
  unfold fWh_isPrizeIn
  rw [fWh_hasPrize_at hT h4 (by omega), if_pos hi, if_neg (by decide), pm_cl4 (by omega)]
theorem sWh_isPrizeIn_at {k : Nat} {M : pm_M} {T i : Nat} (hT : M.1 4 k 1 = nI T) (h4 : T ≤ 4) (hi : i < T) : sWh_isPrizeIn k (nI i) M := ⟨fun _ => trivial, fun _ => pm_vin (by omega) (by omega)⟩
def sWh_ticketsIn_12 (k : Nat) (a1 : Int32) (a2 : Int32) (M : pm_M) : Prop := (sWh_isTicketIn k a2 M)
theorem tWh_ticketsIn_12 {k : Nat} {a1 : Int32} {a2 : Int32} {M : pm_M} {Q : Option pm_V → pm_M → Prop} (hs : sWh_ticketsIn_12 k a1 a2 M) (kk : pm_G mWh_ticketsIn 4 [some (pm_r 4 k), some (pm_i (if (fWh_isTicketIn k a2 M) = 0 then a1 else (a1 ||| (1 <<< (a2 &&& 31))))), some (pm_i (a2 + 1))] [] M Q) : pm_G mWh_ticketsIn 12 [some (pm_r 4 k), some (pm_i a1), some (pm_i a2)] [] M Q := by
  unfold sWh_ticketsIn_12 at hs
  refine bWh_ticketsIn_12 (eWh_isTicketIn (hs)) ?_
  refine bWh_ticketsIn_17 (fun h1 => ?_) (fun h1 => ?_)
  · try simp only [if_pos h1] at kk
    refine bWh_ticketsIn_26 ?_
    exact kk
  · try simp only [if_neg h1] at kk
    refine bWh_ticketsIn_20 ?_
    refine bWh_ticketsIn_26 ?_
    exact kk

def sWh_prizesIn_12 (k : Nat) (a1 : Int32) (a2 : Int32) (M : pm_M) : Prop := (sWh_isPrizeIn k a2 M)
theorem tWh_prizesIn_12 {k : Nat} {a1 : Int32} {a2 : Int32} {M : pm_M} {Q : Option pm_V → pm_M → Prop} (hs : sWh_prizesIn_12 k a1 a2 M) (kk : pm_G mWh_prizesIn 4 [some (pm_r 4 k), some (pm_i (if (fWh_isPrizeIn k a2 M) = 0 then a1 else (a1 ||| (1 <<< (a2 &&& 31))))), some (pm_i (a2 + 1))] [] M Q) : pm_G mWh_prizesIn 12 [some (pm_r 4 k), some (pm_i a1), some (pm_i a2)] [] M Q := by
  unfold sWh_prizesIn_12 at hs
  refine bWh_prizesIn_12 (eWh_isPrizeIn (hs)) ?_
  refine bWh_prizesIn_17 (fun h1 => ?_) (fun h1 => ?_)
  · try simp only [if_pos h1] at kk
    refine bWh_prizesIn_26 ?_
    exact kk
  · try simp only [if_neg h1] at kk
    refine bWh_prizesIn_20 ?_
    refine bWh_prizesIn_26 ?_
    exact kk

def sWh_amountIn_12 (k : Nat) (a1 : Int32) (a2 : Int32) (M : pm_M) : Prop := (sWh_isPrizeIn k a2 M ∧ ((((fWh_isPrizeIn k a2 M) = 0 → True) ∧ (¬ ((fWh_isPrizeIn k a2 M) = 0) → (vp_in a2 4)))))
theorem tWh_amountIn_12 {k : Nat} {a1 : Int32} {a2 : Int32} {M : pm_M} {Q : Option pm_V → pm_M → Prop} (hs : sWh_amountIn_12 k a1 a2 M) (kk : pm_G mWh_amountIn 4 [some (pm_r 4 k), some (pm_i (if (fWh_isPrizeIn k a2 M) = 0 then a1 else (a1 + (M.1 8 k (Int32.toNatClampNeg a2))))), some (pm_i (a2 + 1))] [] M Q) : pm_G mWh_amountIn 12 [some (pm_r 4 k), some (pm_i a1), some (pm_i a2)] [] M Q := by
  unfold sWh_amountIn_12 at hs
  refine bWh_amountIn_12 (eWh_isPrizeIn (hs.1)) ?_
  refine bWh_amountIn_17 (fun h1 => ?_) (fun h1 => ?_)
  · try simp only [if_pos h1] at kk
    refine bWh_amountIn_29 ?_
    exact kk
  · try simp only [if_neg h1] at kk
    refine bWh_amountIn_20 ((hs.2.2 h1)) ?_
    refine bWh_amountIn_29 ?_
    exact kk

def sWh_ticketsWith_14 (k : Nat) (a1 : Int32) (a2 : Int32) (a3 : Int32) (a4 : Int32) (M : pm_M) : Prop := (sWh_trait k a4 a1 M)
theorem tWh_ticketsWith_14 {k : Nat} {a1 : Int32} {a2 : Int32} {a3 : Int32} {a4 : Int32} {M : pm_M} {Q : Option pm_V → pm_M → Prop} (hs : sWh_ticketsWith_14 k a1 a2 a3 a4 M) (kk : pm_G mWh_ticketsWith 5 [some (pm_r 4 k), some (pm_i a1), some (pm_i a2), some (pm_i (if (fWh_trait k a4 a1 M) = a2 then (a3 ||| (1 <<< (a4 &&& 31))) else a3)), some (pm_i (a4 + 1))] [] M Q) : pm_G mWh_ticketsWith 14 [some (pm_r 4 k), some (pm_i a1), some (pm_i a2), some (pm_i a3), some (pm_i a4)] [] M Q := by
  unfold sWh_ticketsWith_14 at hs
  refine bWh_ticketsWith_14 (eWh_trait (hs)) ?_
  refine bWh_ticketsWith_21 (fun h1 => ?_) (fun h1 => ?_)
  · try simp only [if_pos h1] at kk
    refine bWh_ticketsWith_25 ?_
    refine bWh_ticketsWith_32 ?_
    exact kk
  · try simp only [if_neg h1] at kk
    refine bWh_ticketsWith_32 ?_
    exact kk

def sWh_allPurses_12 (k : Nat) (a1 : Int32) (a2 : Int32) (M : pm_M) : Prop := (vp_in a2 4)
theorem tWh_allPurses_12 {k : Nat} {a1 : Int32} {a2 : Int32} {M : pm_M} {Q : Option pm_V → pm_M → Prop} (hs : sWh_allPurses_12 k a1 a2 M) (kk : pm_G mWh_allPurses 4 [some (pm_r 4 k), some (pm_i (a1 + (M.1 5 k (Int32.toNatClampNeg a2)))), some (pm_i (a2 + 1))] [] M Q) : pm_G mWh_allPurses 12 [some (pm_r 4 k), some (pm_i a1), some (pm_i a2)] [] M Q := by
  unfold sWh_allPurses_12 at hs
  refine bWh_allPurses_12 (hs) ?_
  exact kk

def sWh_pull_22 (k : Nat) (a1 : Int32) (a2 : Int32) (a3 : Int32) (a4 : Int32) (M : pm_M) : Prop := (sWh_isTicketIn k a4 M ∧ ((((fWh_isTicketIn k a4 M) = 0 → True) ∧ (¬ ((fWh_isTicketIn k a4 M) = 0) → (vp_in a3 4) ∧ (sWh_feeFor k a4 a3 M ∧ ((vp_in a3 4)))))))
theorem tWh_pull_22 {k : Nat} {a1 : Int32} {a2 : Int32} {a3 : Int32} {a4 : Int32} {M : pm_M} {Q : Option pm_V → pm_M → Prop} (hs : sWh_pull_22 k a1 a2 a3 a4 M) (kk : pm_G mWh_pull 13 [some (pm_r 4 k), some (pm_i a1), some (pm_i a2), some (pm_i a3), some (pm_i (a4 + 1))] [] (if (fWh_isTicketIn k a4 M) = 0 then M else (pm_set M 5 k (upd (M.1 5 k) (Int32.toNatClampNeg a3) ((M.1 5 k (Int32.toNatClampNeg a3)) + (fWh_feeFor k a4 a3 M))))) Q) : pm_G mWh_pull 22 [some (pm_r 4 k), some (pm_i a1), some (pm_i a2), some (pm_i a3), some (pm_i a4)] [] M Q := by
  unfold sWh_pull_22 at hs
  refine bWh_pull_22 (eWh_isTicketIn (hs.1)) ?_
  refine bWh_pull_28 (fun h1 => ?_) (fun h1 => ?_)
  · try simp only [if_pos h1] at kk
    refine bWh_pull_47 ?_
    exact kk
  · try simp only [if_neg h1] at kk
    refine bWh_pull_31 (((hs.2.2 h1)).1) (eWh_feeFor ((((hs.2.2 h1)).2).1)) ?_
    refine bWh_pull_45 ((((hs.2.2 h1)).2).2) ?_
    refine bWh_pull_47 ?_
    exact kk

def sWh_pull_53 (k : Nat) (a1 : Int32) (a2 : Int32) (a3 : Int32) (a4 : Int32) (M : pm_M) : Prop := (vp_in a3 4) ∧ (vp_in a2 4) ∧ (sWh_shareFor k a1 (M.1 8 k (Int32.toNatClampNeg a2)) a3 M ∧ ((vp_in a3 4)))
theorem tWh_pull_53 {k : Nat} {a1 : Int32} {a2 : Int32} {a3 : Int32} {a4 : Int32} {M : pm_M} {Q : Option pm_V → pm_M → Prop} (hs : sWh_pull_53 k a1 a2 a3 a4 M) (kk : pm_G mWh_pull 2 [some (pm_r 4 k), some (pm_i a1), some (pm_i a2), some (pm_i (a3 + 1)), none] [] (pm_set M 5 k (upd (M.1 5 k) (Int32.toNatClampNeg a3) ((M.1 5 k (Int32.toNatClampNeg a3)) + (fWh_shareFor k a1 (M.1 8 k (Int32.toNatClampNeg a2)) a3 M)))) Q) : pm_G mWh_pull 53 [some (pm_r 4 k), some (pm_i a1), some (pm_i a2), some (pm_i a3), some (pm_i a4)] [] M Q := by
  unfold sWh_pull_53 at hs
  refine bWh_pull_53 (hs.1) (hs.2.1) (eWh_shareFor (hs.2.2.1)) ?_
  refine bWh_pull_72 (hs.2.2.2) ?_
  exact pm_G_le (ls' := [some (pm_r 4 k), some (pm_i a1), some (pm_i a2), some (pm_i (a3 + 1)), none]) ⟨Or.inr rfl, Or.inr rfl, Or.inr rfl, Or.inr rfl, Or.inl rfl, trivial⟩ kk

def fWh_ticketsIn (k : Nat) (M : pm_M) : Int32 := nI (pm_bits (fun t => decide (M.1 7 k t = -4)) (M.1 4 k 1).toNatClampNeg)
def sWh_ticketsIn (k : Nat) (M : pm_M) : Prop := pm_small (M.1 4 k 1)
theorem eWh_ticketsIn {k : Nat} {M : pm_M} (hs : sWh_ticketsIn k M) : pm_Ev mWh_ticketsIn [pm_r 4 k] M (some (pm_i (fWh_ticketsIn k M))) M := by
  refine pm_Sem_of (ls := [some (pm_r 4 k), none, none]) ok_mWh_ticketsIn (by decide +kernel) rfl (by decide) (Nat.le_of_ble_eq_true rfl) rfl ?_
  obtain ⟨T, h4, hT⟩ := hs
  unfold fWh_ticketsIn
  rw [hT, pm_cl4 (by omega)]
  refine bWh_ticketsIn_0 ?_
  refine pm_upto (N := T) (P := fun i => pm_G mWh_ticketsIn 4 [some (pm_r 4 k), some (pm_i (nI (pm_bits (fun t => decide (M.1 7 k t = -4)) i))), some (pm_i (nI i))] [] M _) ?_ ?_ 0 (Nat.zero_le _)
  · exact bWh_ticketsIn_4 (fun _ => bWh_ticketsIn_32 ⟨rfl, rfl⟩) (fun h => absurd (by rw [hT]; exact (pm_le4 (by omega) (by omega)).mpr (Nat.le_refl _)) h)
  · intro i hi kk
    refine bWh_ticketsIn_4 (fun h => ?_) (fun _ => ?_)
    · rw [hT] at h
      have := (pm_le4 (by omega) (by omega)).mp h
      omega
    · refine tWh_ticketsIn_12 (sWh_isTicketIn_at hT h4 hi) ?_
      rw [fWh_isTicketIn_at hT h4 hi, nI_1]
      have e : (if (if M.1 7 k i = -4 then (1 : Int32) else 0) = 0 then nI (pm_bits (fun t => decide (M.1 7 k t = -4)) i) else nI (pm_bits (fun t => decide (M.1 7 k t = -4)) i) ||| (1 <<< (nI i &&& 31))) = nI (pm_bits (fun t => decide (M.1 7 k t = -4)) (i + 1)) := by
        rw [pm_bits, pm_or1 (by omega) (pm_bits_lt _ i)]
        by_cases h : M.1 7 k i = -4
        · simp [h]
        · simp [h]
      rw [e]
      exact kk
def fWh_prizesIn (k : Nat) (M : pm_M) : Int32 := nI (pm_bits (fun t => decide (M.1 9 k t = -4)) (M.1 4 k 1).toNatClampNeg)
def sWh_prizesIn (k : Nat) (M : pm_M) : Prop := pm_small (M.1 4 k 1)
theorem eWh_prizesIn {k : Nat} {M : pm_M} (hs : sWh_prizesIn k M) : pm_Ev mWh_prizesIn [pm_r 4 k] M (some (pm_i (fWh_prizesIn k M))) M := by
  refine pm_Sem_of (ls := [some (pm_r 4 k), none, none]) ok_mWh_prizesIn (by decide +kernel) rfl (by decide) (Nat.le_of_ble_eq_true rfl) rfl ?_
  obtain ⟨T, h4, hT⟩ := hs
  unfold fWh_prizesIn
  rw [hT, pm_cl4 (by omega)]
  refine bWh_prizesIn_0 ?_
  refine pm_upto (N := T) (P := fun i => pm_G mWh_prizesIn 4 [some (pm_r 4 k), some (pm_i (nI (pm_bits (fun t => decide (M.1 9 k t = -4)) i))), some (pm_i (nI i))] [] M _) ?_ ?_ 0 (Nat.zero_le _)
  · exact bWh_prizesIn_4 (fun _ => bWh_prizesIn_32 ⟨rfl, rfl⟩) (fun h => absurd (by rw [hT]; exact (pm_le4 (by omega) (by omega)).mpr (Nat.le_refl _)) h)
  · intro i hi kk
    refine bWh_prizesIn_4 (fun h => ?_) (fun _ => ?_)
    · rw [hT] at h
      have := (pm_le4 (by omega) (by omega)).mp h
      omega
    · refine tWh_prizesIn_12 (sWh_isPrizeIn_at hT h4 hi) ?_
      rw [fWh_isPrizeIn_at hT h4 hi, nI_1]
      have e : (if (if M.1 9 k i = -4 then (1 : Int32) else 0) = 0 then nI (pm_bits (fun t => decide (M.1 9 k t = -4)) i) else nI (pm_bits (fun t => decide (M.1 9 k t = -4)) i) ||| (1 <<< (nI i &&& 31))) = nI (pm_bits (fun t => decide (M.1 9 k t = -4)) (i + 1)) := by
        rw [pm_bits, pm_or1 (by omega) (pm_bits_lt _ i)]
        by_cases h : M.1 9 k i = -4
        · simp [h]
        · simp [h]
      rw [e]
      exact kk
def fWh_amountIn (k : Nat) (M : pm_M) : Int32 := pm_sumI (fun j => if M.1 9 k j = -4 then M.1 8 k j else 0) (M.1 4 k 1).toNatClampNeg
def sWh_amountIn (k : Nat) (M : pm_M) : Prop := pm_small (M.1 4 k 1)
theorem eWh_amountIn {k : Nat} {M : pm_M} (hs : sWh_amountIn k M) : pm_Ev mWh_amountIn [pm_r 4 k] M (some (pm_i (fWh_amountIn k M))) M := by
  refine pm_Sem_of (ls := [some (pm_r 4 k), none, none]) ok_mWh_amountIn (by decide +kernel) rfl (by decide) (Nat.le_of_ble_eq_true rfl) rfl ?_
  obtain ⟨T, h4, hT⟩ := hs
  unfold fWh_amountIn
  rw [hT, pm_cl4 (by omega)]
  refine bWh_amountIn_0 ?_
  refine pm_upto (N := T) (P := fun i => pm_G mWh_amountIn 4 [some (pm_r 4 k), some (pm_i (pm_sumI (fun j => if M.1 9 k j = -4 then M.1 8 k j else 0) i)), some (pm_i (nI i))] [] M _) ?_ ?_ 0 (Nat.zero_le _)
  · exact bWh_amountIn_4 (fun _ => bWh_amountIn_35 ⟨rfl, rfl⟩) (fun h => absurd (by rw [hT]; exact (pm_le4 (by omega) (by omega)).mpr (Nat.le_refl _)) h)
  · intro i hi kk
    refine bWh_amountIn_4 (fun h => ?_) (fun _ => ?_)
    · rw [hT] at h
      have := (pm_le4 (by omega) (by omega)).mp h
      omega
    · refine tWh_amountIn_12 ⟨sWh_isPrizeIn_at hT h4 hi, fun _ => trivial, fun _ => pm_vin (by omega) (by omega)⟩ ?_
      rw [fWh_isPrizeIn_at hT h4 hi, nI_1, pm_cl4 (by omega)]
      have e : (if (if M.1 9 k i = -4 then (1 : Int32) else 0) = 0 then pm_sumI (fun j => if M.1 9 k j = -4 then M.1 8 k j else 0) i else pm_sumI (fun j => if M.1 9 k j = -4 then M.1 8 k j else 0) i + M.1 8 k i) = pm_sumI (fun j => if M.1 9 k j = -4 then M.1 8 k j else 0) (i + 1) := by
        rw [pm_sumI]
        by_cases h : M.1 9 k i = -4
        · simp [h]
        · simp [h]
      rw [e]
      exact kk
def fWh_allPurses (k : Nat) (M : pm_M) : Int32 := pm_sumI (fun j => M.1 5 k j) (M.1 4 k 0).toNatClampNeg
def sWh_allPurses (k : Nat) (M : pm_M) : Prop := pm_small (M.1 4 k 0)
theorem eWh_allPurses {k : Nat} {M : pm_M} (hs : sWh_allPurses k M) : pm_Ev mWh_allPurses [pm_r 4 k] M (some (pm_i (fWh_allPurses k M))) M := by
  refine pm_Sem_of (ls := [some (pm_r 4 k), none, none]) ok_mWh_allPurses (by decide +kernel) rfl (by decide) (Nat.le_of_ble_eq_true rfl) rfl ?_
  obtain ⟨T, h4, hT⟩ := hs
  unfold fWh_allPurses
  rw [hT, pm_cl4 (by omega)]
  refine bWh_allPurses_0 ?_
  refine pm_upto (N := T) (P := fun i => pm_G mWh_allPurses 4 [some (pm_r 4 k), some (pm_i (pm_sumI (fun j => M.1 5 k j) i)), some (pm_i (nI i))] [] M _) ?_ ?_ 0 (Nat.zero_le _)
  · exact bWh_allPurses_4 (fun _ => bWh_allPurses_27 ⟨rfl, rfl⟩) (fun h => absurd (by rw [hT]; exact (pm_le4 (by omega) (by omega)).mpr (Nat.le_refl _)) h)
  · intro i hi kk
    refine bWh_allPurses_4 (fun h => ?_) (fun _ => ?_)
    · rw [hT] at h
      have := (pm_le4 (by omega) (by omega)).mp h
      omega
    · refine tWh_allPurses_12 (pm_vin (by omega) (by omega)) ?_
      rw [nI_1, pm_cl4 (by omega)]
      exact kk
def fWh_ticketsWith (k : Nat) (a1 a2 : Int32) (M : pm_M) : Int32 := nI (pm_bits (fun t => decide (fWh_trait k (nI t) a1 M = a2)) (M.1 4 k 1).toNatClampNeg)
def sWh_ticketsWith (k : Nat) (a1 _a2 : Int32) (M : pm_M) : Prop := pm_small (M.1 4 k 1) ∧ ∀ t, t < 4 → sWh_trait k (nI t) a1 M
theorem eWh_ticketsWith {k : Nat} {a1 a2 : Int32} {M : pm_M} (hs : sWh_ticketsWith k a1 a2 M) : pm_Ev mWh_ticketsWith [pm_r 4 k, pm_i a1, pm_i a2] M (some (pm_i (fWh_ticketsWith k a1 a2 M))) M := by
  refine pm_Sem_of (ls := [some (pm_r 4 k), some (pm_i a1), some (pm_i a2), none, none]) ok_mWh_ticketsWith (by decide +kernel) rfl (by decide) (Nat.le_of_ble_eq_true rfl) rfl ?_
  obtain ⟨⟨T, h4, hT⟩, hs⟩ := hs
  unfold fWh_ticketsWith
  rw [hT, pm_cl4 (by omega)]
  refine bWh_ticketsWith_0 ?_
  refine pm_upto (N := T) (P := fun i => pm_G mWh_ticketsWith 5 [some (pm_r 4 k), some (pm_i a1), some (pm_i a2), some (pm_i (nI (pm_bits (fun t => decide (fWh_trait k (nI t) a1 M = a2)) i))), some (pm_i (nI i))] [] M _) ?_ ?_ 0 (Nat.zero_le _)
  · exact bWh_ticketsWith_5 (fun _ => bWh_ticketsWith_38 ⟨rfl, rfl⟩) (fun h => absurd (by rw [hT]; exact (pm_le4 (by omega) (by omega)).mpr (Nat.le_refl _)) h)
  · intro i hi kk
    refine bWh_ticketsWith_5 (fun h => ?_) (fun _ => ?_)
    · rw [hT] at h
      have := (pm_le4 (by omega) (by omega)).mp h
      omega
    · refine tWh_ticketsWith_14 (hs i (by omega)) ?_
      rw [nI_1]
      have e : (if fWh_trait k (nI i) a1 M = a2 then nI (pm_bits (fun t => decide (fWh_trait k (nI t) a1 M = a2)) i) ||| (1 <<< (nI i &&& 31)) else nI (pm_bits (fun t => decide (fWh_trait k (nI t) a1 M = a2)) i)) = nI (pm_bits (fun t => decide (fWh_trait k (nI t) a1 M = a2)) (i + 1)) := by
        rw [pm_bits, pm_or1 (by omega) (pm_bits_lt _ i)]
        by_cases h : fWh_trait k (nI i) a1 M = a2
        · simp [h]
        · simp [h]
      rw [e]
      exact kk
/-! a draw -/
theorem fWh_trait_set {k t k' : Nat} {a b : Int32} {M : pm_M} {f : Nat → Int32} (h : t ≠ 6) : fWh_trait k a b (pm_set M t k' f) = fWh_trait k a b M := by
  unfold fWh_trait
  rw [pm_set_ne _ _ h]
theorem fWh_feeFor_set {k t k' : Nat} {a b : Int32} {M : pm_M} {f : Nat → Int32} (h : t ≠ 6) : fWh_feeFor k a b (pm_set M t k' f) = fWh_feeFor k a b M := by
  unfold fWh_feeFor fWh_feeFor_37 fWh_sharedOut fWh_sharedOut_15
  simp only [fWh_trait_set h]
theorem fWh_shareFor_set {k t k' : Nat} {a b c : Int32} {M : pm_M} {f : Nat → Int32} (h : t ≠ 6) : fWh_shareFor k a b c (pm_set M t k' f) = fWh_shareFor k a b c M := by
  unfold fWh_shareFor fWh_shareFor_16 fWh_sharedOut fWh_sharedOut_15
  simp only [fWh_trait_set h]
theorem sWh_all {k : Nat} {M : pm_M} {i : Nat} {w : Int32} (hi : i < 4) (hw : w = 0 ∨ w = 1 ∨ w = 2 ∨ w = 3) : sWh_trait k (nI i) w M := by
  unfold sWh_trait
  have : ∀ i : Fin 4, vp_in (4 * nI i.val + 0) 16 ∧ vp_in (4 * nI i.val + 1) 16 ∧ vp_in (4 * nI i.val + 2) 16 ∧ vp_in (4 * nI i.val + 3) 16 := by unfold vp_in; decide +kernel
  have h := this ⟨i, hi⟩
  rcases hw with rfl | rfl | rfl | rfl
  · exact h.1
  · exact h.2.1
  · exact h.2.2.1
  · exact h.2.2.2
theorem sWh_sharedOut_ok {k : Nat} {M : pm_M} {i : Nat} {a2 a3 a4 : Int32} (hi : i < 4) : sWh_sharedOut k (nI i) a2 a3 a4 M := ⟨sWh_all hi (by simp), fun _ => sWh_all hi (by simp), fun _ => sWh_all hi (by simp)⟩
theorem sWh_feeFor_ok {k : Nat} {M : pm_M} {i : Nat} {a2 : Int32} (hi : i < 4) : sWh_feeFor k (nI i) a2 M := ⟨sWh_all hi (by simp), fun _ => ⟨sWh_all hi (by simp), sWh_sharedOut_ok hi⟩, fun _ => ⟨fun _ => ⟨sWh_all hi (by simp), sWh_sharedOut_ok hi⟩, fun _ => sWh_sharedOut_ok hi⟩⟩
theorem sWh_shareFor16_ok {k : Nat} {M : pm_M} {i : Nat} {a2 a3 x : Int32} (hi : i < 4) : sWh_shareFor_16 k (nI i) a2 a3 x M := ⟨sWh_all hi (by simp), fun _ => sWh_sharedOut_ok hi, fun _ => ⟨fun _ => ⟨by decide, by decide, sWh_sharedOut_ok hi⟩, fun _ => ⟨fun _ => sWh_sharedOut_ok hi, fun _ => sWh_sharedOut_ok hi⟩⟩⟩
theorem sWh_shareFor_ok {k : Nat} {M : pm_M} {i : Nat} {a2 a3 : Int32} (hi : i < 4) : sWh_shareFor k (nI i) a2 a3 M := ⟨fun _ => ⟨sWh_all hi (by simp), sWh_shareFor16_ok hi⟩, fun _ => sWh_shareFor16_ok hi⟩
/-- what a person's purse is behind a draw of ticket i, prize j -/
def pm_fees (k : Nat) (M : pm_M) (x : Nat) : Nat → Int32 := pm_acc (M.1 5 k x) (fun u => if M.1 7 k u = -4 then fWh_feeFor k (nI u) (nI x) M else 0)
def pm_purse (k : Nat) (M : pm_M) (T i j x : Nat) : Int32 := pm_fees k M x T + fWh_shareFor k (nI i) (M.1 8 k j) (nI x) M
def gWh_pull (k : Nat) (a1 a2 : Int32) (M : pm_M) : pm_M := pm_set (pm_set (pm_set M 5 k (fun x => if x < (M.1 4 k 0).toNatClampNeg then pm_purse k M (M.1 4 k 1).toNatClampNeg a1.toNatClampNeg a2.toNatClampNeg x else M.1 5 k x)) 7 k (upd (M.1 7 k) a1.toNatClampNeg a2)) 9 k (upd (M.1 9 k) a2.toNatClampNeg a1)
def sWh_pull (k : Nat) (a1 a2 : Int32) (M : pm_M) : Prop := pm_small (M.1 4 k 0) ∧ pm_small (M.1 4 k 1) ∧ (∃ i, i < 4 ∧ a1 = nI i) ∧ ∃ j, j < 4 ∧ a2 = nI j
set_option maxHeartbeats 1000000 in
theorem eWh_pull {k : Nat} {a1 a2 : Int32} {M : pm_M} (hs : sWh_pull k a1 a2 M) : pm_Ev mWh_pull [pm_r 4 k, pm_i a1, pm_i a2] M none (gWh_pull k a1 a2 M) := by
  refine pm_Sem_of (ls := [some (pm_r 4 k), some (pm_i a1), some (pm_i a2), none, none]) ok_mWh_pull (by decide +kernel) rfl (by decide) (Nat.le_of_ble_eq_true rfl) rfl ?_
  obtain ⟨⟨P, h4P, hP⟩, ⟨T, h4, hT⟩, ⟨i0, hi0, rfl⟩, ⟨j0, hj0, rfl⟩⟩ := hs
  unfold gWh_pull
  rw [hT, hP, pm_cl4 (show T ≤ 1000 by omega), pm_cl4 (show P ≤ 1000 by omega), pm_cl4 (show i0 ≤ 1000 by omega), pm_cl4 (show j0 ≤ 1000 by omega)]
  refine bWh_pull_0 ?_
  have key := pm_upto (N := P) (P := fun x => pm_G mWh_pull 2 [some (pm_r 4 k), some (pm_i (nI i0)), some (pm_i (nI j0)), some (pm_i (nI x)), none] [] (pm_set M 5 k (fun y => if y < x then pm_purse k M T i0 j0 y else M.1 5 k y)) (pm_D none (pm_set (pm_set (pm_set M 5 k (fun x => if x < P then pm_purse k M T i0 j0 x else M.1 5 k x)) 7 k (upd (M.1 7 k) i0 (nI j0))) 9 k (upd (M.1 9 k) j0 (nI i0))))) ?_ ?_ 0 (Nat.zero_le _)
  · rw [pm_set_id (M := M) (t := 5) (k := k) (fun j => by simp)] at key
    exact key
  · refine bWh_pull_2 (fun _ => ?_) (fun h => ?_)
    · refine bWh_pull_80 (pm_vin hi0 (by omega)) (pm_vin hj0 (by omega)) ⟨rfl, ?_⟩
      rw [pm_cl4 (show i0 ≤ 1000 by omega), pm_cl4 (show j0 ≤ 1000 by omega), pm_set_ne _ _ (by decide), pm_set_ne _ _ (by decide)]
    · rw [pm_set_ne _ _ (by decide), hP] at h
      exact absurd ((pm_le4 (by omega) (by omega)).mpr (Nat.le_refl _)) h
  · intro x hx kk
    refine bWh_pull_2 (fun h => ?_) (fun _ => ?_)
    · rw [pm_set_ne _ _ (by decide), hP] at h
      have := (pm_le4 (by omega) (by omega)).mp h
      omega
    · refine bWh_pull_10 ?_
      have key2 := pm_upto (N := T) (P := fun u => pm_G mWh_pull 13 [some (pm_r 4 k), some (pm_i (nI i0)), some (pm_i (nI j0)), some (pm_i (nI x)), some (pm_i (nI u))] [] (pm_set M 5 k (fun y => if y < x then pm_purse k M T i0 j0 y else if y = x then pm_fees k M x u else M.1 5 k y)) (pm_D none (pm_set (pm_set (pm_set M 5 k (fun x => if x < P then pm_purse k M T i0 j0 x else M.1 5 k x)) 7 k (upd (M.1 7 k) i0 (nI j0))) 9 k (upd (M.1 9 k) j0 (nI i0))))) ?_ ?_ 0 (Nat.zero_le _)
      · have e : (fun y => if y < x then pm_purse k M T i0 j0 y else if y = x then pm_fees k M x 0 else M.1 5 k y) = (fun y => if y < x then pm_purse k M T i0 j0 y else M.1 5 k y) := by
          funext y
          by_cases h1 : y < x
          · simp [h1]
          · by_cases h2 : y = x
            · subst h2
              simp [pm_fees, pm_acc]
            · simp [h1, h2]
        rw [e] at key2
        exact key2
      · refine bWh_pull_13 (fun _ => ?_) (fun h => ?_)
        · refine tWh_pull_53 ⟨pm_vin (by omega) (by omega), pm_vin hj0 (by omega), sWh_shareFor_ok hi0, pm_vin (by omega) (by omega)⟩ ?_
          rw [pm_cl4 (show x ≤ 1000 by omega), pm_cl4 (show j0 ≤ 1000 by omega), fWh_shareFor_set (by decide), pm_set_set, pm_set_at, pm_set_ne _ _ (by decide), nI_1]
          have e : upd (fun y => if y < x then pm_purse k M T i0 j0 y else if y = x then pm_fees k M x T else M.1 5 k y) x ((fun y => if y < x then pm_purse k M T i0 j0 y else if y = x then pm_fees k M x T else M.1 5 k y) x + fWh_shareFor k (nI i0) (M.1 8 k j0) (nI x) M) = (fun y => if y < x + 1 then pm_purse k M T i0 j0 y else M.1 5 k y) := by
            funext y
            unfold upd
            by_cases h2 : y = x
            · subst h2
              simp [pm_purse]
            · by_cases h1 : y < x
              · have h3 : y < x + 1 := by omega
                simp [h1, h2, h3]
              · have h3 : ¬ y < x + 1 := by omega
                simp [h1, h2, h3]
          rw [e]
          exact kk
        · rw [pm_set_ne _ _ (by decide), hT] at h
          exact absurd ((pm_le4 (by omega) (by omega)).mpr (Nat.le_refl _)) h
      · intro u hu kk2
        refine bWh_pull_13 (fun h => ?_) (fun _ => ?_)
        · rw [pm_set_ne _ _ (by decide), hT] at h
          have := (pm_le4 (by omega) (by omega)).mp h
          omega
        · have hT' : (pm_set M 5 k (fun y => if y < x then pm_purse k M T i0 j0 y else if y = x then pm_fees k M x u else M.1 5 k y)).1 4 k 1 = nI T := by rw [pm_set_ne _ _ (by decide), hT]
          refine tWh_pull_22 ⟨sWh_isTicketIn_at hT' h4 hu, fun _ => trivial, fun _ => ⟨pm_vin (by omega) (by omega), sWh_feeFor_ok (by omega), pm_vin (by omega) (by omega)⟩⟩ ?_
          rw [fWh_isTicketIn_at hT' h4 hu, fWh_feeFor_set (by decide), pm_set_set, pm_set_at, pm_set_ne _ _ (by decide), pm_cl4 (show x ≤ 1000 by omega), nI_1]
          have e : (if (if M.1 7 k u = -4 then (1 : Int32) else 0) = 0 then pm_set M 5 k (fun y => if y < x then pm_purse k M T i0 j0 y else if y = x then pm_fees k M x u else M.1 5 k y) else pm_set M 5 k (upd (fun y => if y < x then pm_purse k M T i0 j0 y else if y = x then pm_fees k M x u else M.1 5 k y) x ((fun y => if y < x then pm_purse k M T i0 j0 y else if y = x then pm_fees k M x u else M.1 5 k y) x + fWh_feeFor k (nI u) (nI x) M))) = pm_set M 5 k (fun y => if y < x then pm_purse k M T i0 j0 y else if y = x then pm_fees k M x (u + 1) else M.1 5 k y) := by
            by_cases h : M.1 7 k u = -4
            · simp only [h, if_true]
              rw [if_neg (by decide)]
              congr 1
              funext y
              unfold upd
              by_cases h2 : y = x
              · subst h2
                simp [pm_fees, pm_acc, h]
              · simp [h2]
            · simp only [h, if_false, if_true]
              congr 1
              funext y
              by_cases h2 : y = x
              · subst h2
                simp [pm_fees, pm_acc, h]
              · simp [h2]
          rw [e]
          exact kk2
