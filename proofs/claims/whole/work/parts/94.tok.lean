/-! tokens of a tape: n bytes b -/
def tx_rn (c : Nat → Bool) (n : Nat) : Nat → Nat → Nat
  | 0, p => p
  | m + 1, p => if c p = true then tx_rn c n m (p + 1) else p
/-- the end of the run of such bytes from p on -/
def tx_run (c : Nat → Bool) (n p : Nat) : Nat := tx_rn c n (n - p) p
theorem run_yes {c : Nat → Bool} {n p : Nat} (hp : p < n) (hc : c p = true) : tx_run c n p = tx_run c n (p + 1) := by
  unfold tx_run
  rw [show n - p = (n - (p + 1)) + 1 by omega, tx_rn, if_pos hc]
theorem run_end {c : Nat → Bool} {n p : Nat} (hp : n ≤ p) : tx_run c n p = p := by
  unfold tx_run
  rw [show n - p = 0 by omega, tx_rn]
theorem run_no {c : Nat → Bool} {n p : Nat} (hc : ¬ c p = true) : tx_run c n p = p := by
  unfold tx_run
  cases n - p with
  | zero => rfl
  | succ m => rw [tx_rn, if_neg hc]
theorem rn_bd (c : Nat → Bool) (n : Nat) : ∀ m p, p ≤ tx_rn c n m p ∧ tx_rn c n m p ≤ p + m
  | 0, p => by rw [tx_rn]; omega
  | m + 1, p => by
    rw [tx_rn]
    have := rn_bd c n m (p + 1)
    split <;> omega
theorem run_ge {c : Nat → Bool} {n p : Nat} : p ≤ tx_run c n p := (rn_bd c n (n - p) p).1
theorem run_le {c : Nat → Bool} {n p : Nat} (h : p ≤ n) : tx_run c n p ≤ n := by
  have := (rn_bd c n (n - p) p).2
  unfold tx_run
  omega
theorem rn_in (c : Nat → Bool) (n : Nat) : ∀ m p i, p ≤ i → i < tx_rn c n m p → c i = true
  | 0, p, i, h1, h2 => by
    rw [tx_rn] at h2
    omega
  | m + 1, p, i, h1, h2 => by
    rw [tx_rn] at h2
    by_cases q : c p = true
    · rw [if_pos q] at h2
      by_cases e : i = p
      · rw [e]
        exact q
      · exact rn_in c n m (p + 1) i (by omega) h2
    · rw [if_neg q] at h2
      omega
theorem run_in {c : Nat → Bool} {n p i : Nat} (h1 : p ≤ i) (h2 : i < tx_run c n p) : c i = true := rn_in c n (n - p) p i h1 h2
theorem rn_out (c : Nat → Bool) (n : Nat) : ∀ m p, p + m = n → tx_rn c n m p < n → ¬ c (tx_rn c n m p) = true
  | 0, p, h, h2 => by
    rw [tx_rn] at h2
    omega
  | m + 1, p, h, h2 => by
    rw [tx_rn] at h2 ⊢
    by_cases q : c p = true
    · rw [if_pos q] at h2 ⊢
      exact rn_out c n m (p + 1) (by omega) h2
    · rw [if_neg q]
      exact q
theorem run_out {c : Nat → Bool} {n p : Nat} (h : p ≤ n) (h2 : tx_run c n p < n) : ¬ c (tx_run c n p) = true := rn_out c n (n - p) p (by omega) h2
def tx_bl (b : Nat → Nat) (i : Nat) : Bool := decide (b i = 32)
def tx_lt (b : Nat → Nat) (i : Nat) : Bool := decide (97 ≤ b i ∧ b i ≤ 122)
def tx_dg (b : Nat → Nat) (i : Nat) : Bool := decide (48 ≤ b i ∧ b i ≤ 57)
/-- where the token from p on begins, of which sort it is, where it ends, its value -/
def tkS (n : Nat) (b : Nat → Nat) (p : Nat) : Nat := tx_run (tx_bl b) n p
def tkK (n : Nat) (b : Nat → Nat) (p : Nat) : Nat := if n ≤ tkS n b p then 0 else if b (tkS n b p) = 59 then 3 else if tx_lt b (tkS n b p) = true then 1 else if tx_run (tx_dg b) n (tkS n b p) - tkS n b p = 1 ∨ tx_run (tx_dg b) n (tkS n b p) - tkS n b p = 2 then 2 else 4
def tkE (n : Nat) (b : Nat → Nat) (p : Nat) : Nat := if n ≤ tkS n b p then tkS n b p else if b (tkS n b p) = 59 then tkS n b p + 1 else if tx_lt b (tkS n b p) = true then tx_run (tx_lt b) n (tkS n b p) else tx_run (tx_dg b) n (tkS n b p)
def tx_va (b : Nat → Nat) (s : Nat) : Nat → Int32
  | 0 => 0
  | k + 1 => tx_va b s k * 10 + nI (b (s + k)) - 48
def tkV (n : Nat) (b : Nat → Nat) (p : Nat) : Nat := if tx_run (tx_dg b) n (tkS n b p) - tkS n b p = 1 then b (tkS n b p) - 48 else (b (tkS n b p) - 48) * 10 + (b (tkS n b p + 1) - 48)
/-- the class's tape -/
def tp (M : pm_M) (n : Nat) (b : Nat → Nat) : Prop := n ≤ 160 ∧ M.1 21 0 1 = nI n ∧ ∀ i, i < n → b i ≤ 127 ∧ M.1 22 0 i = nI (b i)
def tsp (M : pm_M) (p : Nat) : pm_M := pm_set M 21 0 (upd (M.1 21 0) 2 (nI p))
theorem tsp_next (M : pm_M) (p : Nat) : pm_set (tsp M p) 21 0 (upd ((tsp M p).1 21 0) 2 (((tsp M p).1 21 0 2) + 1)) = tsp M (p + 1) := by
  unfold tsp
  rw [pm_set_set, pm_set_at, pk_us, upd_upd, nI_1]
theorem tsp_1 (M : pm_M) (p : Nat) : (tsp M p).1 21 0 1 = M.1 21 0 1 := by
  unfold tsp
  rw [pm_set_at, pk_un (by decide)]
theorem tsp_2 (M : pm_M) (p : Nat) : (tsp M p).1 21 0 2 = nI p := by
  unfold tsp
  rw [pm_set_at, pk_us]
theorem tsp_self {M : pm_M} {p : Nat} (h : M.1 21 0 2 = nI p) : tsp M p = M := by
  unfold tsp
  rw [← h, upd_self, pm_set_self]
theorem tp_tsp {M : pm_M} {n p : Nat} {b : Nat → Nat} (h : tp M n b) : tp (tsp M p) n b := ⟨h.1, (tsp_1 M p).trans h.2.1, h.2.2⟩
theorem c_blanks {M : pm_M} {n p : Nat} {b : Nat → Nat} (h : tp M n b) (hp : p ≤ n) (h2 : M.1 21 0 2 = nI p) : pm_Ev mTa_passBlanks [pm_r 21 0] M none (tsp M (tkS n b p)) := by
  obtain ⟨hn, h1, hb⟩ := h
  have loop : ∀ m q, n - q = m → q < n → pm_G mTa_passBlanks 11 [some (pm_r 21 0)] [] (tsp M q) (pm_D none (tsp M (tkS n b q))) := by
    intro m
    induction m with
    | zero => intro q e hq; omega
    | succ m ih =>
      intro q e hq
      refine bTa_passBlanks_11 (by rw [tsp_2]; exact pm_vin (by omega) (by omega)) (fun k => ?_) (fun k => bTa_passBlanks_38 ?_)
      · rw [tsp_2, pm_cl4 (by omega), show (tsp M q).1 22 0 = M.1 22 0 from rfl, (hb q hq).2] at k
        have k1 : b q = 32 := (pm_eq4 (a := b q) (b := 32) (by have := (hb q hq).1; omega) (by omega)).mp k
        have k2 : tkS n b q = tkS n b (q + 1) := run_yes hq (decide_eq_true k1)
        rw [k2]
        refine bTa_passBlanks_25 (fun c => ?_) (fun c => ?_)
        · rw [tsp_next] at c ⊢
          rw [tsp_1, tsp_2, h1] at c
          have c1 := (pm_le4 (by omega) (by omega)).mp c
          refine bTa_passBlanks_38 ⟨rfl, ?_⟩
          rw [show tkS n b (q + 1) = q + 1 from run_end c1]
        · rw [tsp_next] at c ⊢
          rw [tsp_1, tsp_2, h1] at c
          have c1 : ¬ n ≤ q + 1 := fun x => c ((pm_le4 (by omega) (by omega)).mpr x)
          exact ih (q + 1) (by omega) (by omega)
      · rw [tsp_2, pm_cl4 (by omega), show (tsp M q).1 22 0 = M.1 22 0 from rfl, (hb q hq).2] at k
        have k1 : ¬ b q = 32 := fun x => k (by rw [x]; rfl)
        refine ⟨rfl, ?_⟩
        rw [show tkS n b q = q from run_no (by simpa [tx_bl] using k1)]
  refine pm_Sem_of (ls := [some (pm_r 21 0)]) ok_mTa_passBlanks (by decide +kernel) rfl (by decide) (Nat.le_of_ble_eq_true rfl) rfl ?_
  refine bTa_passBlanks_0 (fun c => bTa_passBlanks_38 ⟨rfl, ?_⟩) (fun c => ?_)
  · rw [h1, h2] at c
    have c1 := (pm_le4 (by omega) (by omega)).mp c
    rw [show tkS n b p = p from run_end c1, tsp_self h2]
  · rw [h1, h2] at c
    have c1 : ¬ n ≤ p := fun x => c ((pm_le4 (by omega) (by omega)).mpr x)
    have := loop (n - p) p rfl (by omega)
    rw [tsp_self h2] at this
    exact this
theorem c_letters {M : pm_M} {n p : Nat} {b : Nat → Nat} (h : tp M n b) (hp : p ≤ n) (h2 : M.1 21 0 2 = nI p) : pm_Ev mTa_passLetters [pm_r 21 0] M none (tsp M (tx_run (tx_lt b) n p)) := by
  obtain ⟨hn, h1, hb⟩ := h
  have loop : ∀ m q, n - q = m → q < n → pm_G mTa_passLetters 11 [some (pm_r 21 0)] [] (tsp M q) (pm_D none (tsp M (tx_run (tx_lt b) n q))) := by
    intro m
    induction m with
    | zero => intro q e hq; omega
    | succ m ih =>
      intro q e hq
      have vq : vp_in ((tsp M q).1 21 0 2) 160 := by rw [tsp_2]; exact pm_vin (by omega) (by omega)
      have eb : (tsp M q).1 22 0 ((tsp M q).1 21 0 2).toNatClampNeg = nI (b q) := by rw [tsp_2, pm_cl4 (by omega), show (tsp M q).1 22 0 = M.1 22 0 from rfl, (hb q hq).2]
      have h127 := (hb q hq).1
      have stop : ¬ tx_lt b q = true → pm_G mTa_passLetters 52 [some (pm_r 21 0)] [] (tsp M q) (pm_D none (tsp M (tx_run (tx_lt b) n q))) := fun k => bTa_passLetters_52 ⟨rfl, by rw [run_no k]⟩
      refine bTa_passLetters_11 vq (fun k => stop ?_) (fun k => bTa_passLetters_25 vq (fun k2 => stop ?_) (fun k2 => ?_))
      · rw [eb] at k
        have := (pm_lt4 (a := b q) (b := 97) (by omega) (by omega)).mp k
        unfold tx_lt
        simp
        omega
      · rw [eb] at k2
        have := (pm_lt4 (a := 122) (b := b q) (by omega) (by omega)).mp k2
        unfold tx_lt
        simp
        omega
      · rw [eb] at k k2
        have k3 : ¬ b q < 97 := fun x => k ((pm_lt4 (a := b q) (b := 97) (by omega) (by omega)).mpr x)
        have k4 : ¬ 122 < b q := fun x => k2 ((pm_lt4 (a := 122) (b := b q) (by omega) (by omega)).mpr x)
        have k5 : tx_lt b q = true := decide_eq_true (by omega)
        rw [run_yes hq k5]
        refine bTa_passLetters_39 (fun c => ?_) (fun c => ?_)
        · rw [tsp_next] at c ⊢
          rw [tsp_1, tsp_2, h1] at c
          have c1 := (pm_le4 (by omega) (by omega)).mp c
          refine bTa_passLetters_52 ⟨rfl, ?_⟩
          rw [run_end c1]
        · rw [tsp_next] at c ⊢
          rw [tsp_1, tsp_2, h1] at c
          have c1 : ¬ n ≤ q + 1 := fun x => c ((pm_le4 (by omega) (by omega)).mpr x)
          exact ih (q + 1) (by omega) (by omega)
  refine pm_Sem_of (ls := [some (pm_r 21 0)]) ok_mTa_passLetters (by decide +kernel) rfl (by decide) (Nat.le_of_ble_eq_true rfl) rfl ?_
  refine bTa_passLetters_0 (fun c => bTa_passLetters_52 ⟨rfl, ?_⟩) (fun c => ?_)
  · rw [h1, h2] at c
    have c1 := (pm_le4 (by omega) (by omega)).mp c
    rw [run_end c1, tsp_self h2]
  · rw [h1, h2] at c
    have c1 : ¬ n ≤ p := fun x => c ((pm_le4 (by omega) (by omega)).mpr x)
    have := loop (n - p) p rfl (by omega)
    rw [tsp_self h2] at this
    exact this
def tvp (M : pm_M) (v : Int32) (p : Nat) : pm_M := pm_set M 21 0 (upd (upd (M.1 21 0) 5 v) 2 (nI p))
theorem tvp_1 (M : pm_M) (v : Int32) (p : Nat) : (tvp M v p).1 21 0 1 = M.1 21 0 1 := by
  unfold tvp
  rw [pm_set_at, pk_un (by decide), pk_un (by decide)]
theorem tvp_2 (M : pm_M) (v : Int32) (p : Nat) : (tvp M v p).1 21 0 2 = nI p := by
  unfold tvp
  rw [pm_set_at, pk_us]
theorem tvp_4 (M : pm_M) (v : Int32) (p : Nat) : (tvp M v p).1 21 0 4 = M.1 21 0 4 := by
  unfold tvp
  rw [pm_set_at, pk_un (by decide), pk_un (by decide)]
theorem tvp_5 (M : pm_M) (v : Int32) (p : Nat) : (tvp M v p).1 21 0 5 = v := by
  unfold tvp
  rw [pm_set_at, pk_un (by decide), pk_us]
theorem upd_swap {f : Nat → Int32} {a b : Nat} {x y : Int32} (h : a ≠ b) : upd (upd f a x) b y = upd (upd f b y) a x := by
  funext j
  unfold upd
  by_cases q : j = a
  · by_cases q2 : j = b
    · omega
    · simp [q, q2, h]
  · by_cases q2 : j = b
    · simp [q2]
      omega
    · simp [q, q2]
theorem tvp_next (M : pm_M) (v w : Int32) (p : Nat) : pm_set (pm_set (tvp M v p) 21 0 (upd ((tvp M v p).1 21 0) 5 w)) 21 0 (upd ((pm_set (tvp M v p) 21 0 (upd ((tvp M v p).1 21 0) 5 w)).1 21 0) 2 (((pm_set (tvp M v p) 21 0 (upd ((tvp M v p).1 21 0) 5 w)).1 21 0 2) + 1)) = tvp M w (p + 1) := by
  rw [pm_set_set, pm_set_at, pk_un (show 2 ≠ 5 by decide), tvp_2, nI_1]
  unfold tvp
  rw [pm_set_set, pm_set_at, upd_swap (a := 2) (b := 5) (by decide), upd_upd, upd_upd]
theorem c_number {M : pm_M} {n p : Nat} {b : Nat → Nat} (h : tp M n b) (hp : p ≤ n) (h2 : M.1 21 0 2 = nI p) (h4 : M.1 21 0 4 = nI p) : pm_Ev mTa_numberToken [pm_r 21 0] M (some (pm_i (if tx_run (tx_dg b) n p - p = 1 ∨ tx_run (tx_dg b) n p - p = 2 then 2 else 4))) (tvp M (tx_va b p (tx_run (tx_dg b) n p - p)) (tx_run (tx_dg b) n p)) := by
  obtain ⟨hn, h1, hb⟩ := h
  have hge : p ≤ tx_run (tx_dg b) n p := run_ge
  have hle : tx_run (tx_dg b) n p ≤ n := run_le hp
  have fin : pm_G mTa_numberToken 81 [some (pm_r 21 0), none] [] (tvp M (tx_va b p (tx_run (tx_dg b) n p - p)) (tx_run (tx_dg b) n p)) (pm_D (some (pm_i (if tx_run (tx_dg b) n p - p = 1 ∨ tx_run (tx_dg b) n p - p = 2 then 2 else 4))) (tvp M (tx_va b p (tx_run (tx_dg b) n p - p)) (tx_run (tx_dg b) n p))) := by
    have e : (tvp M (tx_va b p (tx_run (tx_dg b) n p - p)) (tx_run (tx_dg b) n p)).1 21 0 2 - (tvp M (tx_va b p (tx_run (tx_dg b) n p - p)) (tx_run (tx_dg b) n p)).1 21 0 4 = nI (tx_run (tx_dg b) n p - p) := by rw [tvp_2, tvp_4, h4, pk_sub hge]
    refine bTa_numberToken_81 (fun k => bTa_numberToken_101 (bTa_numberToken_106 ⟨?_, rfl⟩)) (fun k => bTa_numberToken_96 (fun k2 => bTa_numberToken_101 (bTa_numberToken_106 ⟨?_, rfl⟩)) (fun k2 => bTa_numberToken_105 (bTa_numberToken_106 ⟨?_, rfl⟩)))
    · rw [e] at k
      rw [if_pos (Or.inl ((pm_eq4 (a := tx_run (tx_dg b) n p - p) (b := 1) (by omega) (by omega)).mp k))]
    · rw [e] at k2
      rw [if_pos (Or.inr ((pm_eq4 (a := tx_run (tx_dg b) n p - p) (b := 2) (by omega) (by omega)).mp k2))]
    · rw [e] at k k2
      rw [if_neg]
      rintro (x | x)
      · exact k (by rw [x]; rfl)
      · exact k2 (by rw [x]; rfl)
  have loop : ∀ m q, n - q = m → p ≤ q → q ≤ n → tx_run (tx_dg b) n q = tx_run (tx_dg b) n p → pm_G mTa_numberToken 5 [some (pm_r 21 0), none] [] (tvp M (tx_va b p (q - p)) q) (pm_D (some (pm_i (if tx_run (tx_dg b) n p - p = 1 ∨ tx_run (tx_dg b) n p - p = 2 then 2 else 4))) (tvp M (tx_va b p (tx_run (tx_dg b) n p - p)) (tx_run (tx_dg b) n p))) := by
    intro m
    induction m with
    | zero =>
      intro q e hq hq2 hr
      have hqn : n ≤ q := by omega
      have : q = tx_run (tx_dg b) n p := by rw [← hr, run_end hqn]
      refine bTa_numberToken_5 (fun _ => ?_) (fun c => ?_)
      · rw [this]
        exact fin
      · rw [tvp_1, tvp_2, h1] at c
        exact absurd ((pm_le4 (by omega) (by omega)).mpr hqn) c
    | succ m ih =>
      intro q e hq hq2 hr
      have hqn : q < n := by omega
      have vq : vp_in ((tvp M (tx_va b p (q - p)) q).1 21 0 2) 160 := by rw [tvp_2]; exact pm_vin (by omega) (by omega)
      have eb : (tvp M (tx_va b p (q - p)) q).1 22 0 ((tvp M (tx_va b p (q - p)) q).1 21 0 2).toNatClampNeg = nI (b q) := by rw [tvp_2, pm_cl4 (by omega), show (tvp M (tx_va b p (q - p)) q).1 22 0 = M.1 22 0 from rfl, (hb q hqn).2]
      have h127 := (hb q hqn).1
      have stop : ¬ tx_dg b q = true → pm_G mTa_numberToken 81 [some (pm_r 21 0), none] [] (tvp M (tx_va b p (q - p)) q) (pm_D (some (pm_i (if tx_run (tx_dg b) n p - p = 1 ∨ tx_run (tx_dg b) n p - p = 2 then 2 else 4))) (tvp M (tx_va b p (tx_run (tx_dg b) n p - p)) (tx_run (tx_dg b) n p))) := fun k => by
        have : q = tx_run (tx_dg b) n p := by rw [← hr, run_no k]
        rw [this]
        exact fin
      refine bTa_numberToken_5 (fun c => ?_) (fun _ => bTa_numberToken_16 vq (fun k => stop ?_) (fun k => bTa_numberToken_30 vq (fun k2 => stop ?_) (fun k2 => bTa_numberToken_44 vq ?_)))
      · rw [tvp_1, tvp_2, h1] at c
        have := (pm_le4 (by omega) (by omega)).mp c
        omega
      · rw [eb] at k
        have := (pm_lt4 (a := b q) (b := 48) (by omega) (by omega)).mp k
        unfold tx_dg
        simp
        omega
      · rw [eb] at k2
        have := (pm_lt4 (a := 57) (b := b q) (by omega) (by omega)).mp k2
        unfold tx_dg
        simp
        omega
      · rw [eb] at k k2
        have k3 : ¬ b q < 48 := fun x => k ((pm_lt4 (a := b q) (b := 48) (by omega) (by omega)).mpr x)
        have k4 : ¬ 57 < b q := fun x => k2 ((pm_lt4 (a := 57) (b := b q) (by omega) (by omega)).mpr x)
        have k5 : tx_dg b q = true := decide_eq_true (by omega)
        have := ih (q + 1) (by omega) (by omega) (by omega) (by rw [← hr, run_yes hqn k5])
        rw [tvp_next, eb, tvp_5]
        rw [show q + 1 - p = (q - p) + 1 by omega, tx_va, show p + (q - p) = q by omega] at this
        exact this
  refine pm_Sem_of (ls := [some (pm_r 21 0), none]) ok_mTa_numberToken (by decide +kernel) rfl (by decide) (Nat.le_of_ble_eq_true rfl) rfl ?_
  refine bTa_numberToken_0 ?_
  have := loop (n - p) p rfl (by omega) hp rfl
  rw [Nat.sub_self, tx_va] at this
  have e : tvp M 0 p = pm_set M 21 0 (upd (M.1 21 0) 5 0) := by
    unfold tvp
    rw [upd_swap (by decide), ← h2, upd_self]
  rw [e] at this
  exact this
