/-! the reference's next token -/
def tpm (M : pm_M) (n : Nat) (b : Nat → Nat) : Prop := n ≤ 160 ∧ M.1 29 0 13 = nI n ∧ ∀ i, i < n → b i ≤ 127 ∧ M.1 35 0 i = nI (b i)
def rb (n : Nat) (b : Nat → Nat) (q : Nat) : Int32 := if q < n then nI (b q) else -1
theorem ev_byte {M : pm_M} {n q : Nat} {b : Nat → Nat} {g : Nat → Int32} (h : tpm M n b) (hg : g 13 = nI n) (hq : q ≤ 320) : pm_Ev mMo_byteAt [pm_r 29 0, pm_i (nI q)] (pm_set M 29 0 g) (some (pm_i (rb n b q))) (pm_set M 29 0 g) := by
  obtain ⟨hn, _, hb⟩ := h
  have hev := eMo_byteAt (a1 := nI q) (M := pm_set M 29 0 g) ⟨fun _ => trivial, fun c => by
    rw [pm_set_at, hg] at c
    have c1 : ¬ n ≤ q := fun x => c ((pm_le4 (by omega) (by omega)).mpr x)
    exact pm_vin (by omega) (by omega)⟩
  unfold fMo_byteAt at hev
  rw [pm_set_at, hg, pm_cl4 (by omega), pm_set_ne _ _ (show 29 ≠ 35 by decide)] at hev
  unfold rb
  by_cases c : q < n
  · rw [if_neg (fun x => by have := (pm_le4 (by omega) (by omega)).mp x; omega), (hb q c).2] at hev
    rw [if_pos c]
    exact hev
  · rw [if_pos ((pm_le4 (by omega) (by omega)).mpr (by omega))] at hev
    rw [if_neg c]
    exact hev
theorem rb_in {n q lo hi : Nat} {b : Nat → Nat} {M M' : pm_M} (hb : ∀ i, i < n → b i ≤ 127) (hlo : 0 < lo) (hlo2 : lo ≤ 1000) (hhi : hi ≤ 1000) : fWt_within (rb n b q) (nI lo) (nI hi) M = if q < n ∧ lo ≤ b q ∧ b q ≤ hi then 1 else 0 := by
  unfold rb
  by_cases c : q < n
  · have := hb q c
    rw [if_pos c]
    unfold fWt_within
    by_cases c1 : b q < lo
    · rw [if_pos ((pm_lt4 (by omega) (by omega)).mpr c1), if_neg (by omega)]
    · rw [if_neg (fun x => c1 ((pm_lt4 (by omega) (by omega)).mp x))]
      by_cases c2 : hi < b q
      · rw [if_pos ((pm_lt4 (by omega) (by omega)).mpr c2), if_neg (by omega)]
      · rw [if_neg (fun x => c2 ((pm_lt4 (by omega) (by omega)).mp x)), if_pos (by omega)]
  · rw [if_neg c, if_neg (by omega)]
    unfold fWt_within
    rw [if_pos]
    rw [Int32.lt_iff_toInt_lt, nI_toInt (by omega)]
    have : (-1 : Int32).toInt = -1 := by decide
    omega
theorem mo_lt (x : Int32) (M : pm_M) : fMo_in x.toInt64 97 122 M = fWt_within x (nI 97) (nI 122) M := mo_in x 97 122 M M
theorem mo_dg (x : Int32) (M : pm_M) : fMo_in x.toInt64 48 57 M = fWt_within x (nI 48) (nI 57) M := mo_in x 48 57 M M
theorem n_blanks {M : pm_M} {n : Nat} {b : Nat → Nat} {Q : Option pm_V → pm_M → Prop} (h : tpm M n b) : ∀ (m q : Nat) (g : Nat → Int32), n - q = m → q ≤ n → g 13 = nI n → g 14 = nI q → pm_G mMo_next 34 [some (pm_r 29 0), none] [] (pm_set M 29 0 (upd g 14 (nI (tkS n b q)))) Q → pm_G mMo_next 8 [some (pm_r 29 0), none] [] (pm_set M 29 0 g) Q := by
  intro m
  induction m with
  | zero =>
    intro q g e hq h13 h14 kk
    have hn := h.1
    have hb := ev_byte (q := q) h h13 (by omega)
    have e14 : (pm_set M 29 0 g).1 29 0 14 = nI q := by rw [pm_set_at]; exact h14
    rw [← e14] at hb
    refine bMo_next_8 hb (bMo_next_16 (fun c => ?_) (fun _ => ?_))
    · unfold rb at c
      rw [if_neg (by omega)] at c
      exact absurd c (by decide)
    · rw [show tkS n b q = q from run_end (by omega), ← h14, upd_self] at kk
      exact kk
  | succ m ih =>
    intro q g e hq h13 h14 kk
    have hn := h.1
    have hqn : q < n := by omega
    have h127 := (h.2.2 q hqn).1
    have hb := ev_byte (q := q) h h13 (by omega)
    have e14 : (pm_set M 29 0 g).1 29 0 14 = nI q := by rw [pm_set_at]; exact h14
    rw [← e14] at hb
    have er : rb n b q = nI (b q) := by unfold rb; rw [if_pos hqn]
    refine bMo_next_8 hb (bMo_next_16 (fun c => bMo_next_21 ?_) (fun c => ?_))
    · rw [er] at c
      have c1 : b q = 32 := (pm_eq4 (a := b q) (b := 32) (by omega) (by omega)).mp c
      rw [show tkS n b q = tkS n b (q + 1) from run_yes hqn (decide_eq_true c1)] at kk
      rw [e14, pm_set_set, pm_set_at, nI_1]
      refine ih (q + 1) (upd g 14 (nI (q + 1))) (by omega) (by omega) (by rw [pk_un (by decide)]; exact h13) pk_us ?_
      rw [upd_upd]
      exact kk
    · rw [er] at c
      have c1 : ¬ b q = 32 := fun x => c (by rw [x]; rfl)
      rw [show tkS n b q = q from run_no (by simpa [tx_bl] using c1), ← h14, upd_self] at kk
      exact kk
theorem n_letters {M : pm_M} {n : Nat} {b : Nat → Nat} {a1 : Int32} {Q : Option pm_V → pm_M → Prop} (h : tpm M n b) : ∀ (m q : Nat) (g : Nat → Int32), n - q = m → q ≤ n → g 13 = nI n → g 14 = nI q → pm_G mMo_next 274 [some (pm_r 29 0), some (pm_i a1)] [] (pm_set M 29 0 (upd g 14 (nI (tx_run (tx_lt b) n q)))) Q → pm_G mMo_next 82 [some (pm_r 29 0), some (pm_i a1)] [] (pm_set M 29 0 g) Q := by
  intro m
  induction m with
  | zero =>
    intro q g e hq h13 h14 kk
    have hn := h.1
    have hb := ev_byte (q := q) h h13 (by omega)
    have e14 : (pm_set M 29 0 g).1 29 0 14 = nI q := by rw [pm_set_at]; exact h14
    rw [← e14] at hb
    refine bMo_next_82 hb (bMo_next_90 eMo_in (bMo_next_100 (fun _ => ?_) (fun c => ?_)))
    · rw [show tx_run (tx_lt b) n q = q from run_end (by omega), ← h14, upd_self] at kk
      exact kk
    · rw [mo_lt, rb_in (M' := M) (fun i hi => (h.2.2 i hi).1) (by omega) (by omega) (by omega), if_neg (by omega)] at c
      exact absurd rfl c
  | succ m ih =>
    intro q g e hq h13 h14 kk
    have hn := h.1
    have hqn : q < n := by omega
    have hb := ev_byte (q := q) h h13 (by omega)
    have e14 : (pm_set M 29 0 g).1 29 0 14 = nI q := by rw [pm_set_at]; exact h14
    rw [← e14] at hb
    refine bMo_next_82 hb (bMo_next_90 eMo_in (bMo_next_100 (fun c => ?_) (fun c => bMo_next_103 ?_)))
    · rw [mo_lt, rb_in (M' := M) (fun i hi => (h.2.2 i hi).1) (by omega) (by omega) (by omega)] at c
      have c1 : ¬ (97 ≤ b q ∧ b q ≤ 122) := fun x => by
        rw [if_pos ⟨hqn, x⟩] at c
        exact absurd c (by decide)
      rw [show tx_run (tx_lt b) n q = q from run_no (fun x => c1 (of_decide_eq_true x)), ← h14, upd_self] at kk
      exact kk
    · rw [mo_lt, rb_in (M' := M) (fun i hi => (h.2.2 i hi).1) (by omega) (by omega) (by omega)] at c
      have c1 : 97 ≤ b q ∧ b q ≤ 122 := Classical.byContradiction (fun x => by
        rw [if_neg (fun y => x y.2)] at c
        exact absurd rfl c)
      rw [run_yes hqn (decide_eq_true c1)] at kk
      rw [e14, pm_set_set, pm_set_at, nI_1]
      refine ih (q + 1) (upd g 14 (nI (q + 1))) (by omega) (by omega) (by rw [pk_un (by decide)]; exact h13) pk_us ?_
      rw [upd_upd]
      exact kk
def tx_rv (b : Nat → Nat) (s : Nat) : Nat → Int32
  | 0 => 0
  | k + 1 => if k < 2 then (10 * tx_rv b s k + nI (b (s + k))) - 48 else tx_rv b s k
theorem n_digits {M : pm_M} {n s : Nat} {b : Nat → Nat} {a1 : Int32} {Q : Option pm_V → pm_M → Prop} (h : tpm M n b) : ∀ (m q : Nat) (g : Nat → Int32), n - q = m → s ≤ q → q ≤ n → g 13 = nI n → g 14 = nI q → g 15 = nI s → g 17 = tx_rv b s (q - s) → pm_G mMo_next 217 [some (pm_r 29 0), some (pm_i a1)] [] (pm_set M 29 0 (upd (upd g 17 (tx_rv b s (tx_run (tx_dg b) n q - s))) 14 (nI (tx_run (tx_dg b) n q)))) Q → pm_G mMo_next 140 [some (pm_r 29 0), some (pm_i a1)] [] (pm_set M 29 0 g) Q := by
  intro m
  induction m with
  | zero =>
    intro q g e hs hq h13 h14 h15 h17 kk
    have hn := h.1
    have hb := ev_byte (q := q) h h13 (by omega)
    have e14 : (pm_set M 29 0 g).1 29 0 14 = nI q := by rw [pm_set_at]; exact h14
    rw [← e14] at hb
    refine bMo_next_140 hb (bMo_next_148 eMo_in (bMo_next_158 (fun _ => ?_) (fun c => ?_)))
    · rw [show tx_run (tx_dg b) n q = q from run_end (by omega), ← h17, upd_self, ← h14, upd_self] at kk
      exact kk
    · rw [mo_dg, rb_in (M' := M) (fun i hi => (h.2.2 i hi).1) (by omega) (by omega) (by omega), if_neg (by omega)] at c
      exact absurd rfl c
  | succ m ih =>
    intro q g e hs hq h13 h14 h15 h17 kk
    have hn := h.1
    have hqn : q < n := by omega
    have hb := ev_byte (q := q) h h13 (by omega)
    have e14 : (pm_set M 29 0 g).1 29 0 14 = nI q := by rw [pm_set_at]; exact h14
    have e15 : (pm_set M 29 0 g).1 29 0 15 = nI s := by rw [pm_set_at]; exact h15
    have e17 : (pm_set M 29 0 g).1 29 0 17 = tx_rv b s (q - s) := by rw [pm_set_at]; exact h17
    rw [← e14] at hb
    have er : rb n b q = nI (b q) := by unfold rb; rw [if_pos hqn]
    refine bMo_next_140 hb (bMo_next_148 eMo_in (bMo_next_158 (fun c => ?_) (fun c => ?_)))
    · rw [mo_dg, rb_in (M' := M) (fun i hi => (h.2.2 i hi).1) (by omega) (by omega) (by omega)] at c
      have c1 : ¬ (48 ≤ b q ∧ b q ≤ 57) := fun x => by
        rw [if_pos ⟨hqn, x⟩] at c
        exact absurd c (by decide)
      rw [show tx_run (tx_dg b) n q = q from run_no (fun x => c1 (of_decide_eq_true x)), ← h17, upd_self, ← h14, upd_self] at kk
      exact kk
    · rw [mo_dg, rb_in (M' := M) (fun i hi => (h.2.2 i hi).1) (by omega) (by omega) (by omega)] at c
      have c1 : 48 ≤ b q ∧ b q ≤ 57 := Classical.byContradiction (fun x => by
        rw [if_neg (fun y => x y.2)] at c
        exact absurd rfl c)
      rw [run_yes hqn (decide_eq_true c1)] at kk
      have go : ∀ x : Int32, x = tx_rv b s (q + 1 - s) → pm_G mMo_next 201 [some (pm_r 29 0), some (pm_i a1)] [pm_i x, pm_r 29 0] (pm_set M 29 0 g) Q := by
        intro x hx
        refine bMo_next_201 ?_
        rw [pm_set_set, pm_set_at, pk_un (show 14 ≠ 17 by decide), pm_set_at, h14, pm_set_set, nI_1]
        refine ih (q + 1) (upd (upd g 17 x) 14 (nI (q + 1))) (by omega) (by omega) (by omega) (by rw [pk_un (by decide), pk_un (by decide)]; exact h13) pk_us (by rw [pk_un (by decide), pk_un (by decide)]; exact h15) (by rw [pk_un (by decide), pk_us]; exact hx) ?_
        rw [upd_swap (a := 14) (b := 17) (by decide), upd_upd, upd_upd]
        exact kk
      refine bMo_next_161 (fun c2 => bMo_next_197 (go _ ?_)) (fun c2 => bMo_next_175 hb (bMo_next_190 (go _ ?_)))
      · rw [e14, e15, pk_sub hs] at c2
        have := (pm_le4 (a := 2) (b := q - s) (by omega) (by omega)).mp c2
        rw [e17, show q + 1 - s = (q - s) + 1 by omega, tx_rv, if_neg (by omega)]
      · rw [e14, e15, pk_sub hs] at c2
        have : ¬ 2 ≤ q - s := fun x => c2 ((pm_le4 (a := 2) (b := q - s) (by omega) (by omega)).mpr x)
        rw [e17, er, show q + 1 - s = (q - s) + 1 by omega, tx_rv, if_pos (by omega), show s + (q - s) = q by omega]
theorem tx_rv1 {d : Nat} (h : d ≤ 9) : (10 * (0 : Int32) + nI (48 + d)) - 48 = nI d := (by decide +kernel : ∀ d : Fin 10, (10 * (0 : Int32) + nI (48 + d.val)) - 48 = nI d.val) ⟨d, by omega⟩
theorem tx_rv2 {d e : Nat} (h : d ≤ 9) (he : e ≤ 9) : (10 * nI d + nI (48 + e)) - 48 = nI (d * 10 + e) := (by decide +kernel : ∀ d e : Fin 10, (10 * nI d.val + nI (48 + e.val)) - 48 = nI (d.val * 10 + e.val)) ⟨d, by omega⟩ ⟨e, by omega⟩
theorem tkV_m {n p : Nat} {b : Nat → Nat} (hk : tkK n b p = 2) : tx_rv b (tkS n b p) (tx_run (tx_dg b) n (tkS n b p) - tkS n b p) = nI (tkV n b p) := by
  obtain ⟨e, h12, h1, h2, _⟩ := tkV_dig hk
  unfold tkV
  rw [e]
  have d0 : nI (b (tkS n b p + 0)) = nI (48 + (b (tkS n b p) - 48)) := congrArg nI (by rw [Nat.add_zero]; omega)
  have v1 : tx_rv b (tkS n b p) 1 = nI (b (tkS n b p) - 48) := by
    rw [tx_rv, tx_rv, if_pos (by omega), d0, tx_rv1 (by omega)]
  rcases h12 with q | q
  · rw [q, show tkS n b p + 1 - tkS n b p = 1 by omega, if_pos rfl]
    exact v1
  · rw [q, show tkS n b p + 2 - tkS n b p = 2 by omega, if_neg (by omega)]
    have h3 := h2 q
    rw [tx_rv, if_pos (by omega), v1, show nI (b (tkS n b p + 1)) = nI (48 + (b (tkS n b p + 1) - 48)) from congrArg nI (by omega), tx_rv2 (by omega) (by omega)]
/-- what next() leaves in the fields -/
def nxG (n : Nat) (b : Nat → Nat) (p : Nat) (g G : Nat → Int32) : Prop := (∀ j, j ≠ 14 → j ≠ 15 → j ≠ 16 → j ≠ 17 → j ≠ 18 → j ≠ 19 → G j = g j) ∧ G 15 = nI (tkS n b p) ∧ (¬ tkK n b p = 4 → G 14 = nI (tkE n b p) ∧ G 16 = nI (tkK n b p) ∧ G 18 = 0 ∧ (tkK n b p = 2 → G 17 = nI (tkV n b p))) ∧ (tkK n b p = 4 → G 18 = 1 ∧ G 19 = nI (tkS n b p))
theorem m_next0 {M : pm_M} (h : ¬ M.1 29 0 18 ≤ 0) : pm_Ev mMo_next [pm_r 29 0] M none M := by
  refine pm_Sem_of (ls := [some (pm_r 29 0), none]) ok_mMo_next (by decide +kernel) rfl (by decide) (Nat.le_of_ble_eq_true rfl) rfl ?_
  exact bMo_next_0 (fun c => absurd c h) (fun _ => bMo_next_7 ⟨rfl, rfl⟩)
theorem m_next {M : pm_M} {n p : Nat} {b : Nat → Nat} (h : tpm M n b) (hp : p ≤ n) (h14 : M.1 29 0 14 = nI p) (h18 : M.1 29 0 18 = 0) : ∃ G, pm_Ev mMo_next [pm_r 29 0] M none (pm_set M 29 0 G) ∧ nxG n b p (M.1 29 0) G := by
  have hn := h.1
  have hs := tkS_le (b := b) hp
  have h13 := h.2.1
  -- the fields behind the blanks
  generalize hg : upd (upd (M.1 29 0) 14 (nI (tkS n b p))) 15 (nI (tkS n b p)) = g
  have g13 : g 13 = nI n := by rw [← hg, pk_un (by decide), pk_un (by decide)]; exact h13
  have g14 : g 14 = nI (tkS n b p) := by rw [← hg, pk_un (by decide), pk_us]
  have g15 : g 15 = nI (tkS n b p) := by rw [← hg, pk_us]
  have g18 : g 18 = 0 := by rw [← hg, pk_un (by decide), pk_un (by decide)]; exact h18
  have go : ∀ j, j ≠ 14 → j ≠ 15 → g j = M.1 29 0 j := fun j a b9 => by rw [← hg, pk_un b9, pk_un a]
  have hby := ev_byte (q := tkS n b p) h g13 (by omega)
  have start : ∀ G, pm_G mMo_next 50 [some (pm_r 29 0), none] [pm_i (rb n b (tkS n b p))] (pm_set M 29 0 g) (pm_D none (pm_set M 29 0 G)) → pm_Ev mMo_next [pm_r 29 0] M none (pm_set M 29 0 G) := by
    intro G kk
    refine pm_Sem_of (ls := [some (pm_r 29 0), none]) ok_mMo_next (by decide +kernel) rfl (by decide) (Nat.le_of_ble_eq_true rfl) rfl ?_
    refine bMo_next_0 (fun _ => ?_) (fun c => absurd (by rw [h18]; decide) c)
    have key := n_blanks (Q := pm_D none (pm_set M 29 0 G)) h (n - p) p (M.1 29 0) rfl hp h13 h14
    rw [pm_set_self] at key
    refine key (bMo_next_34 (r := rb n b (tkS n b p)) (M1 := pm_set M 29 0 g) ?_ kk)
    simp only [pm_set_set, pm_set_at, pk_us]
    rw [hg, g14]
    exact hby
  by_cases q1 : n ≤ tkS n b p
  · have hk : tkK n b p = 0 := by unfold tkK; rw [if_pos q1]
    have he : tkE n b p = tkS n b p := by unfold tkE; rw [if_pos q1]
    have er : rb n b (tkS n b p) = -1 := by unfold rb; rw [if_neg (by omega)]
    refine ⟨upd g 16 0, start _ (bMo_next_50 (fun c => ?_) (fun _ => bMo_next_55 ?_)), ?_⟩
    · rw [er] at c
      exact absurd c (by decide)
    · rw [pm_set_set, pm_set_at]
      exact bMo_next_274 ⟨rfl, rfl⟩
    · refine ⟨fun j a b9 c _ _ _ => by rw [pk_un c]; exact go j a b9, by rw [pk_un (by decide)]; exact g15, fun _ => ⟨by rw [pk_un (by decide), he]; exact g14, by rw [pk_us, hk]; rfl, by rw [pk_un (by decide)]; exact g18, fun x => absurd (hk.symm.trans x) (by decide)⟩, fun x => absurd (hk.symm.trans x) (by decide)⟩
  · have er : rb n b (tkS n b p) = nI (b (tkS n b p)) := by unfold rb; rw [if_pos (by omega)]
    have h127 := (h.2.2 (tkS n b p) (by omega)).1
    have pos : (0 : Int32) ≤ rb n b (tkS n b p) := by rw [er]; exact nI_pos' (by omega)
    have wl : ∀ M', fWt_within (rb n b (tkS n b p)) (nI 97) (nI 122) M' = if tx_lt b (tkS n b p) = true then 1 else 0 := fun M' => by
      rw [rb_in (M' := M) (fun i hi => (h.2.2 i hi).1) (by omega) (by omega) (by omega)]
      unfold tx_lt
      by_cases c : 97 ≤ b (tkS n b p) ∧ b (tkS n b p) ≤ 122
      · rw [if_pos ⟨by omega, c⟩, if_pos (decide_eq_true c)]
      · rw [if_neg (fun x => c x.2), if_neg (fun x => c (of_decide_eq_true x))]
    have wd : ∀ M', fWt_within (rb n b (tkS n b p)) (nI 48) (nI 57) M' = if tx_dg b (tkS n b p) = true then 1 else 0 := fun M' => by
      rw [rb_in (M' := M) (fun i hi => (h.2.2 i hi).1) (by omega) (by omega) (by omega)]
      unfold tx_dg
      by_cases c : 48 ≤ b (tkS n b p) ∧ b (tkS n b p) ≤ 57
      · rw [if_pos ⟨by omega, c⟩, if_pos (decide_eq_true c)]
      · rw [if_neg (fun x => c x.2), if_neg (fun x => c (of_decide_eq_true x))]
    by_cases q3 : tx_lt b (tkS n b p) = true
    · have l9 : 97 ≤ b (tkS n b p) := (of_decide_eq_true q3).1
      have hk : tkK n b p = 1 := by unfold tkK; rw [if_neg q1, if_neg (by omega), if_pos q3]
      have he : tkE n b p = tx_run (tx_lt b) n (tkS n b p) := by unfold tkE; rw [if_neg q1, if_neg (by omega), if_pos q3]
      refine ⟨upd (upd g 16 1) 14 (nI (tkE n b p)), start _ (bMo_next_50 (fun _ => bMo_next_63 eMo_in (bMo_next_74 (fun c => ?_) (fun _ => bMo_next_77 ?_))) (fun c => absurd pos c)), ?_⟩
      · rw [mo_lt, wl, if_pos q3] at c
        exact absurd c (by decide)
      · rw [pm_set_set, pm_set_at]
        refine n_letters h (n - tkS n b p) (tkS n b p) (upd g 16 1) rfl hs (by rw [pk_un (by decide)]; exact g13) (by rw [pk_un (by decide)]; exact g14) ?_
        rw [← he]
        exact bMo_next_274 ⟨rfl, rfl⟩
      · refine ⟨fun j a b9 c _ _ _ => by rw [pk_un a, pk_un c]; exact go j a b9, by rw [pk_un (by decide), pk_un (by decide)]; exact g15, fun _ => ⟨pk_us, by rw [pk_un (by decide), pk_us, hk]; rfl, by rw [pk_un (by decide), pk_un (by decide)]; exact g18, fun x => absurd (hk.symm.trans x) (by decide)⟩, fun x => absurd (hk.symm.trans x) (by decide)⟩
    · by_cases q4 : tx_dg b (tkS n b p) = true
      · have l9 : 48 ≤ b (tkS n b p) ∧ b (tkS n b p) ≤ 57 := of_decide_eq_true q4
        have hlen : tkS n b p + 1 ≤ tx_run (tx_dg b) n (tkS n b p) := by
          rw [run_yes (by omega) q4]
          exact run_ge
        have hle : tx_run (tx_dg b) n (tkS n b p) ≤ n := run_le hs
        have he : tkE n b p = tx_run (tx_dg b) n (tkS n b p) := by unfold tkE; rw [if_neg q1, if_neg (by omega), if_neg q3]
        have hk : tkK n b p = if tx_run (tx_dg b) n (tkS n b p) - tkS n b p = 1 ∨ tx_run (tx_dg b) n (tkS n b p) - tkS n b p = 2 then 2 else 4 := by unfold tkK; rw [if_neg q1, if_neg (by omega), if_neg q3]
        generalize hG : upd (upd (upd (upd g 16 2) 17 0) 17 (tx_rv b (tkS n b p) (tx_run (tx_dg b) n (tkS n b p) - tkS n b p))) 14 (nI (tx_run (tx_dg b) n (tkS n b p))) = G
        have G14 : G 14 = nI (tx_run (tx_dg b) n (tkS n b p)) := by rw [← hG, pk_us]
        have G15 : G 15 = nI (tkS n b p) := by rw [← hG, pk_un (by decide), pk_un (by decide), pk_un (by decide), pk_un (by decide)]; exact g15
        have G18 : G 18 = 0 := by rw [← hG, pk_un (by decide), pk_un (by decide), pk_un (by decide), pk_un (by decide)]; exact g18
        have G16 : G 16 = 2 := by rw [← hG, pk_un (by decide), pk_un (by decide), pk_un (by decide), pk_us]
        have G17 : G 17 = tx_rv b (tkS n b p) (tx_run (tx_dg b) n (tkS n b p) - tkS n b p) := by rw [← hG, pk_un (by decide), pk_us]
        have Go : ∀ j, j ≠ 14 → j ≠ 15 → j ≠ 16 → j ≠ 17 → G j = M.1 29 0 j := fun j a b9 c d => by rw [← hG, pk_un a, pk_un d, pk_un d, pk_un c]; exact go j a b9
        have walk : ∀ G', pm_G mMo_next 217 [some (pm_r 29 0), some (pm_i (rb n b (tkS n b p)))] [] (pm_set M 29 0 G) (pm_D none (pm_set M 29 0 G')) → pm_Ev mMo_next [pm_r 29 0] M none (pm_set M 29 0 G') := by
          intro G' kk
          refine start _ (bMo_next_50 (fun _ => bMo_next_63 eMo_in (bMo_next_74 (fun _ => bMo_next_116 eMo_in (bMo_next_127 (fun c => ?_) (fun _ => bMo_next_130 ?_))) (fun c => ?_))) (fun c => absurd pos c))
          · rw [mo_dg, wd, if_pos q4] at c
            exact absurd c (by decide)
          · rw [pm_set_set, pm_set_at, pm_set_set, pm_set_at]
            refine n_digits (s := tkS n b p) h (n - tkS n b p) (tkS n b p) (upd (upd g 16 2) 17 0) rfl (by omega) hs (by rw [pk_un (by decide), pk_un (by decide)]; exact g13) (by rw [pk_un (by decide), pk_un (by decide)]; exact g14) (by rw [pk_un (by decide), pk_un (by decide)]; exact g15) (by rw [pk_us, Nat.sub_self]; rfl) ?_
            rw [hG]
            exact kk
          · rw [mo_lt, wl, if_neg q3] at c
            exact absurd rfl c
        have e2 : (pm_set M 29 0 G).1 29 0 14 - (pm_set M 29 0 G).1 29 0 15 = nI (tx_run (tx_dg b) n (tkS n b p) - tkS n b p) := by rw [pm_set_at, G14, G15, pk_sub (by omega)]
        by_cases q5 : tx_run (tx_dg b) n (tkS n b p) - tkS n b p ≤ 2
        · rw [if_pos (by omega)] at hk
          refine ⟨G, walk G (bMo_next_217 (fun c => ?_) (fun _ => bMo_next_231 (bMo_next_236 (M1 := pm_set M 29 0 G) ?_ (bMo_next_240 (bMo_next_274 ⟨rfl, rfl⟩))))), ?_⟩
          · rw [e2] at c
            have := (pm_lt4 (a := 2) (b := tx_run (tx_dg b) n (tkS n b p) - tkS n b p) (by omega) (by omega)).mp c
            omega
          · have := eMo_needs (a1 := 1) (a2 := 1) (M := pm_set M 29 0 G)
            unfold gMo_needs at this
            rw [if_neg (by decide)] at this
            exact this
          · exact ⟨fun j a b9 c d _ _ => Go j a b9 c d, G15, fun _ => ⟨by rw [he]; exact G14, by rw [hk]; exact G16, G18, fun x => by rw [G17]; exact tkV_m x⟩, fun x => absurd (hk.symm.trans x) (by decide)⟩
        · rw [if_neg (by omega)] at hk
          refine ⟨upd (upd G 18 1) 19 (nI (tkS n b p)), walk _ (bMo_next_217 (fun _ => bMo_next_235 (bMo_next_236 (M1 := pm_set M 29 0 (upd (upd G 18 1) 19 (nI (tkS n b p)))) ?_ (bMo_next_240 (bMo_next_274 ⟨rfl, rfl⟩)))) (fun c => ?_)), ?_⟩
          · have := eMo_needs (a1 := 0) (a2 := 1) (M := pm_set M 29 0 G)
            unfold gMo_needs at this
            rw [if_pos rfl, pm_set_at, G18, if_pos rfl, pm_set_set, pm_set_at, pm_set_set, pk_un (show 15 ≠ 18 by decide), G15] at this
            exact this
          · rw [e2] at c
            exact absurd ((pm_lt4 (a := 2) (b := tx_run (tx_dg b) n (tkS n b p) - tkS n b p) (by omega) (by omega)).mpr (by omega)) c
          · exact ⟨fun j a b9 c d e f => by rw [pk_un f, pk_un e]; exact Go j a b9 c d, by rw [pk_un (by decide), pk_un (by decide)]; exact G15, fun x => absurd hk x, fun _ => ⟨by rw [pk_un (by decide), pk_us], pk_us⟩⟩
      · have hr : tx_run (tx_dg b) n (tkS n b p) = tkS n b p := run_no q4
        have walk : ∀ G', pm_G mMo_next 243 [some (pm_r 29 0), some (pm_i (rb n b (tkS n b p)))] [] (pm_set M 29 0 g) (pm_D none (pm_set M 29 0 G')) → pm_Ev mMo_next [pm_r 29 0] M none (pm_set M 29 0 G') := by
          intro G' kk
          refine start _ (bMo_next_50 (fun _ => bMo_next_63 eMo_in (bMo_next_74 (fun _ => bMo_next_116 eMo_in (bMo_next_127 (fun _ => kk) (fun c => ?_))) (fun c => ?_))) (fun c => absurd pos c))
          · rw [mo_dg, wd, if_neg q4] at c
            exact absurd rfl c
          · rw [mo_lt, wl, if_neg q3] at c
            exact absurd rfl c
        by_cases q2 : b (tkS n b p) = 59
        · have hk : tkK n b p = 3 := by unfold tkK; rw [if_neg q1, if_pos q2]
          have he : tkE n b p = tkS n b p + 1 := by unfold tkE; rw [if_neg q1, if_pos q2]
          refine ⟨upd (upd g 16 3) 14 (nI (tkS n b p + 1)), walk _ (bMo_next_243 (fun _ => bMo_next_255 (bMo_next_260 (M1 := pm_set M 29 0 (upd g 16 3)) ?_ (bMo_next_264 ?_))) (fun c => ?_)), ?_⟩
          · rw [pm_set_set, pm_set_at]
            have := eMo_needs (a1 := 1) (a2 := 1) (M := pm_set M 29 0 (upd g 16 3))
            unfold gMo_needs at this
            rw [if_neg (by decide)] at this
            exact this
          · rw [pm_set_set, pm_set_at, pk_un (show 14 ≠ 16 by decide), g14, nI_1]
            exact bMo_next_274 ⟨rfl, rfl⟩
          · rw [er, q2] at c
            exact absurd rfl c
          · exact ⟨fun j a b9 c _ _ _ => by rw [pk_un a, pk_un c]; exact go j a b9, by rw [pk_un (by decide), pk_un (by decide)]; exact g15, fun _ => ⟨by rw [pk_us, he], by rw [pk_un (by decide), pk_us, hk]; rfl, by rw [pk_un (by decide), pk_un (by decide)]; exact g18, fun x => absurd (hk.symm.trans x) (by decide)⟩, fun x => absurd (hk.symm.trans x) (by decide)⟩
        · have hk : tkK n b p = 4 := by unfold tkK; rw [if_neg q1, if_neg q2, if_neg q3, hr, if_neg (by omega)]
          refine ⟨upd (upd (upd (upd g 16 3) 18 1) 19 (nI (tkS n b p))) 14 (nI (tkS n b p + 1)), walk _ (bMo_next_243 (fun c => ?_) (fun _ => bMo_next_259 (bMo_next_260 (M1 := pm_set M 29 0 (upd (upd (upd g 16 3) 18 1) 19 (nI (tkS n b p)))) ?_ (bMo_next_264 ?_)))), ?_⟩
          · rw [er] at c
            exact absurd ((pm_eq4 (a := b (tkS n b p)) (b := 59) (by omega) (by omega)).mp c) q2
          · rw [pm_set_set, pm_set_at]
            have := eMo_needs (a1 := 0) (a2 := 1) (M := pm_set M 29 0 (upd g 16 3))
            unfold gMo_needs at this
            rw [if_pos rfl, pm_set_at, pk_un (show 18 ≠ 16 by decide), g18, if_pos rfl, pm_set_set, pm_set_at, pm_set_set, pk_un (show 15 ≠ 18 by decide), pk_un (show 15 ≠ 16 by decide), g15] at this
            exact this
          · rw [pm_set_set, pm_set_at, pk_un (show 14 ≠ 19 by decide), pk_un (show 14 ≠ 18 by decide), pk_un (show 14 ≠ 16 by decide), g14, nI_1]
            exact bMo_next_274 ⟨rfl, rfl⟩
          · exact ⟨fun j a b9 c _ e f => by rw [pk_un a, pk_un f, pk_un e, pk_un c]; exact go j a b9, by rw [pk_un (by decide), pk_un (by decide), pk_un (by decide), pk_un (by decide)]; exact g15, fun x => absurd hk x, fun _ => ⟨by rw [pk_un (by decide), pk_un (by decide), pk_us], by rw [pk_un (by decide), pk_us]⟩⟩
