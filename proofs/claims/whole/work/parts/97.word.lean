/-! words -/
def wc (k i : Nat) : Nat := ((pm_sby.getD k []).getD i 0).toNatClampNeg
def wl (k : Nat) : Nat := pm_slen.getD k 0
theorem wl_le {k : Nat} (hk : k < 7) : 4 ≤ wl k ∧ wl k ≤ 7 := (by decide +kernel : ∀ k : Fin 7, 4 ≤ wl k.val ∧ wl k.val ≤ 7) ⟨k, hk⟩
theorem wc_at {k i : Nat} (hk : k < 7) (hi : i < wl k) : (((Int32.toUInt32 (((pm_sby.getD k []).getD i 0) &&& 255)) % 65536).toInt32 = nI (wc k i)) ∧ wc k i ≤ 127 := (by decide +kernel : ∀ k : Fin 7, ∀ i : Fin 7, i.val < wl k.val → (((Int32.toUInt32 (((pm_sby.getD k.val []).getD i.val 0) &&& 255)) % 65536).toInt32 = nI (wc k.val i.val)) ∧ wc k.val i.val ≤ 127) ⟨k, hk⟩ ⟨i, by have := (wl_le hk).2; omega⟩ hi
theorem c_coder {k : Nat} {M : pm_M} : pm_Ev mSt_coder [pm_r 52 k] M (some (pm_i 0)) M := by
  refine pm_Sem_of (ls := [some (pm_r 52 k)]) ok_mSt_coder (by decide +kernel) rfl (by decide) (Nat.le_of_ble_eq_true rfl) rfl ?_
  exact bSt_coder_0 (fun c => absurd c (by decide)) (fun _ => bSt_coder_6 (bSt_coder_14 rfl ⟨rfl, rfl⟩))
theorem c_length {k : Nat} {M : pm_M} (hk : k < 7) : pm_Ev mSt_length [pm_r 52 k] M (some (pm_i (nI (wl k)))) M := by
  refine pm_Sem_of (ls := [some (pm_r 52 k)]) ok_mSt_length (by decide +kernel) rfl (by decide) (Nat.le_of_ble_eq_true rfl) rfl ?_
  refine bSt_length_0 c_coder (bSt_length_9 ⟨?_, rfl⟩)
  have e : (nI (wl k)) >>> ((0 : Int32) &&& 31) = nI (wl k) := (by decide +kernel : ∀ k : Fin 7, (nI (wl k.val)) >>> ((0 : Int32) &&& 31) = nI (wl k.val)) ⟨k, hk⟩
  rw [← e]
  rfl
theorem c_latin {k : Nat} {M : pm_M} : pm_Ev mSt_isLatin1 [pm_r 52 k] M (some (pm_i 1)) M := by
  refine pm_Sem_of (ls := [some (pm_r 52 k)]) ok_mSt_isLatin1 (by decide +kernel) rfl (by decide) (Nat.le_of_ble_eq_true rfl) rfl ?_
  exact bSt_isLatin1_0 (fun c => absurd c (by decide)) (fun _ => bSt_isLatin1_6 (fun _ => bSt_isLatin1_13 (bSt_isLatin1_18 rfl ⟨rfl, rfl⟩)) (fun c => absurd rfl c))
theorem c_check {a L : Int32} {M : pm_M} (h0 : ¬ a < 0) (hL : a < L) : pm_Ev mSt_checkIndex [pm_i a, pm_i L] M none M := by
  have e : pm_Ev mPr_checkIndex [pm_i a, pm_i L, pm_r 54 0] M (some (pm_i a)) M := by
    refine pm_Sem_of (ls := [some (pm_i a), some (pm_i L), some (pm_r 54 0)]) ok_mPr_checkIndex (by decide +kernel) rfl (by decide) (Nat.le_of_ble_eq_true rfl) rfl ?_
    exact bPr_checkIndex_0 (fun c => absurd c h0) (fun _ => bPr_checkIndex_4 (fun _ => bPr_checkIndex_16 ⟨rfl, rfl⟩) (fun c => absurd hL c))
  refine pm_Sem_of (ls := [some (pm_i a), some (pm_i L)]) ok_mSt_checkIndex (by decide +kernel) rfl (by decide) (Nat.le_of_ble_eq_true rfl) rfl ?_
  exact bSt_checkIndex_0 e (bSt_checkIndex_8 ⟨rfl, rfl⟩)
theorem c_chr {k i : Nat} {M : pm_M} (hk : k < 7) (hi : i < wl k) : pm_Ev mSt_charAt [pm_r 52 k, pm_i (nI i)] M (some (pm_i (nI (wc k i)))) M := by
  have h7 := (wl_le hk).2
  obtain ⟨w1, w2⟩ := wc_at hk hi
  have nar := pk_charN (q := wc k i) (by omega)
  have e : pm_Ev mSl_charAt [pm_r 53 k, pm_i (nI i)] M (some (pm_i (nI (wc k i)))) M := by
    refine pm_Sem_of (ls := [some (pm_r 53 k), some (pm_i (nI i))]) ok_mSl_charAt (by decide +kernel) rfl (by decide) (Nat.le_of_ble_eq_true rfl) rfl ?_
    refine bSl_charAt_0 (c_check (pm_pos4 (by omega)) ((pm_lt4 (a := i) (b := wl k) (by omega) (by omega)).mpr hi)) (bSl_charAt_6 (pm_vin hi (by show wl k ≤ 1000; omega)) ?_ ⟨?_, rfl⟩)
    · rw [pm_cl4 (by omega), w1]
      exact nar.1
    · rw [pm_cl4 (by omega), w1]
  refine pm_Sem_of (ls := [some (pm_r 52 k), some (pm_i (nI i))]) ok_mSt_charAt (by decide +kernel) rfl (by decide) (Nat.le_of_ble_eq_true rfl) rfl ?_
  exact bSt_charAt_0 c_latin (bSt_charAt_4 (fun c => absurd c (by decide)) (fun _ => bSt_charAt_7 e (bSt_charAt_15 nar.1 ⟨rfl, rfl⟩)))
def isW (b : Nat → Nat) (s e k : Nat) : Bool := decide (e - s = wl k) && pm_alln (fun i => decide (b (s + i) = wc k i)) (wl k)
theorem nar01 (c : Prop) [Decidable c] : narrow .boolean (.int (if c then 1 else 0)) = .int (if c then 1 else 0) := by
  by_cases q : c
  · rw [if_pos q]
    rfl
  · rw [if_neg q]
    rfl
theorem c_isWord {M : pm_M} {n s e k : Nat} {b : Nat → Nat} (h : tp M n b) (hs : s ≤ e) (he : e ≤ n) (h2 : M.1 21 0 2 = nI e) (h4 : M.1 21 0 4 = nI s) (hk : k < 7) : pm_Ev mTa_isWord [pm_r 21 0, pm_r 52 k] M (some (pm_i (if isW b s e k = true then 1 else 0))) M := by
  obtain ⟨hn, h1, hb⟩ := h
  have h7 := (wl_le hk).2
  refine pm_Sem_of (ls := [some (pm_r 21 0), some (pm_r 52 k), none]) ok_mTa_isWord (by decide +kernel) rfl (by decide) (Nat.le_of_ble_eq_true rfl) rfl ?_
  refine bTa_isWord_0 (c_length hk) (bTa_isWord_13 (fun c => ?_) (fun c => bTa_isWord_16 rfl ⟨?_, rfl⟩))
  · rw [h2, h4, pk_sub hs] at c
    have c1 : e - s = wl k := (pm_eq4 (by omega) (by omega)).mp c
    have loop : ∀ m i, i + m = wl k → pm_alln (fun i => decide (b (s + i) = wc k i)) i = true → pm_G mTa_isWord 20 [some (pm_r 21 0), some (pm_r 52 k), some (pm_i (nI i))] [] M (pm_D (some (pm_i (if isW b s e k = true then 1 else 0))) M) := by
      intro m
      induction m with
      | zero =>
        intro i hi ha
        have ei : i = wl k := by omega
        refine bTa_isWord_20 (c_length hk) (bTa_isWord_25 (fun _ => bTa_isWord_55 rfl ⟨?_, rfl⟩) (fun c => absurd ((pm_le4 (by omega) (by omega)).mpr (by omega)) c))
        rw [ei] at ha
        unfold isW
        rw [ha, decide_eq_true c1]
        rfl
      | succ m ih =>
        intro i hi ha
        have hi2 : i < wl k := by omega
        have hb2 := hb (s + i) (by omega)
        have ea : (M.1 21 0 4) + nI i = nI (s + i) := by rw [h4, nI_add]
        refine bTa_isWord_20 (c_length hk) (bTa_isWord_25 (fun c => ?_) (fun _ => bTa_isWord_28 (by rw [ea]; exact pm_vin (by omega) (by omega)) (c_chr hk hi2) (bTa_isWord_44 (fun c => bTa_isWord_49 ?_) (fun c => bTa_isWord_47 rfl ⟨?_, rfl⟩))))
        · have := (pm_le4 (by omega) (by omega)).mp c
          omega
        · rw [ea, pm_cl4 (by omega), hb2.2] at c
          have c2 := (pm_eq4 (by omega) (by have := (wc_at hk hi2).2; omega)).mp c
          rw [nI_1]
          refine ih (i + 1) (by omega) ?_
          rw [pm_alln, ha, decide_eq_true c2]
          rfl
        · rw [ea, pm_cl4 (by omega), hb2.2] at c
          have c2 : ¬ b (s + i) = wc k i := fun x => c (by rw [x])
          unfold isW
          rw [pm_alln_pre hi2 (decide_eq_false c2), Bool.and_false]
          rfl
    exact bTa_isWord_18 (loop (wl k) 0 (by omega) rfl)
  · rw [h2, h4, pk_sub hs] at c
    have c1 : ¬ e - s = wl k := fun x => c (by rw [x])
    unfold isW
    rw [decide_eq_false c1, Bool.false_and]
    rfl
theorem c_wordOf {k : Nat} {M : pm_M} (hk : k < 7) : pm_Ev mTe_wordOf [pm_i (nI k)] M (some (pm_r 52 k)) M := by
  refine pm_Sem_of (ls := [some (pm_i (nI k))]) ok_mTe_wordOf (by decide +kernel) rfl (by decide) (Nat.le_of_ble_eq_true rfl) rfl ?_
  refine bTe_wordOf_0 ?_
  rcases (show k = 0 ∨ k = 1 ∨ k = 2 ∨ k = 3 ∨ k = 4 ∨ k = 5 ∨ k = 6 by omega) with rfl | rfl | rfl | rfl | rfl | rfl | rfl
  · rw [show pm_tsw 1 57 0 5 #[39, 42, 45, 48, 51, 54] (nI 0) = 40 by decide +kernel]
    exact bTe_wordOf_40 ⟨rfl, rfl⟩
  · rw [show pm_tsw 1 57 0 5 #[39, 42, 45, 48, 51, 54] (nI 1) = 43 by decide +kernel]
    exact bTe_wordOf_43 ⟨rfl, rfl⟩
  · rw [show pm_tsw 1 57 0 5 #[39, 42, 45, 48, 51, 54] (nI 2) = 46 by decide +kernel]
    exact bTe_wordOf_46 ⟨rfl, rfl⟩
  · rw [show pm_tsw 1 57 0 5 #[39, 42, 45, 48, 51, 54] (nI 3) = 49 by decide +kernel]
    exact bTe_wordOf_49 ⟨rfl, rfl⟩
  · rw [show pm_tsw 1 57 0 5 #[39, 42, 45, 48, 51, 54] (nI 4) = 52 by decide +kernel]
    exact bTe_wordOf_52 ⟨rfl, rfl⟩
  · rw [show pm_tsw 1 57 0 5 #[39, 42, 45, 48, 51, 54] (nI 5) = 55 by decide +kernel]
    exact bTe_wordOf_55 ⟨rfl, rfl⟩
  · rw [show pm_tsw 1 57 0 5 #[39, 42, 45, 48, 51, 54] (nI 6) = 58 by decide +kernel]
    exact bTe_wordOf_58 ⟨rfl, rfl⟩
/-- which line a name begins -/
def lw (b : Nat → Nat) (s e : Nat) : Int32 := pm_first (fun k => isW b s e k) 7
theorem c_lineOf {M : pm_M} {n s e : Nat} {b : Nat → Nat} (h : tp M n b) (hs : s ≤ e) (he : e ≤ n) (h2 : M.1 21 0 2 = nI e) (h4 : M.1 21 0 4 = nI s) : pm_Ev mTe_lineOf [pm_r 21 0] M (some (pm_i (lw b s e))) M := by
  refine pm_Sem_of (ls := [some (pm_r 21 0), none]) ok_mTe_lineOf (by decide +kernel) rfl (by decide) (Nat.le_of_ble_eq_true rfl) rfl ?_
  have loop : ∀ m k, k + m = 7 → (∀ j, j < k → isW b s e j = false) → pm_G mTe_lineOf 2 [some (pm_r 21 0), some (pm_i (nI k))] [] M (pm_D (some (pm_i (lw b s e))) M) := by
    intro m
    induction m with
    | zero =>
      intro k hk ha
      have : k = 7 := by omega
      subst this
      refine bTe_lineOf_2 (fun _ => bTe_lineOf_27 ⟨?_, rfl⟩) (fun c => absurd (show (7 : Int32) ≤ nI 7 by decide) c)
      unfold lw
      rw [pm_first_no ha]
    | succ m ih =>
      intro k hk ha
      refine bTe_lineOf_2 (fun c => ?_) (fun _ => bTe_lineOf_8 (c_wordOf (by omega)) (bTe_lineOf_13 (c_isWord h hs he h2 h4 (by omega)) (bTe_lineOf_16 (fun c => bTe_lineOf_21 ?_) (fun c => bTe_lineOf_19 ⟨?_, rfl⟩))))
      · have := (pm_le4 (a := 7) (b := k) (by omega) (by omega)).mp c
        omega
      · rw [nI_1]
        refine ih (k + 1) (by omega) (fun j hj => ?_)
        by_cases q : j = k
        · rw [q]
          by_cases q2 : isW b s e k = true
          · rw [if_pos q2] at c
            exact absurd c (by decide)
          · exact Bool.eq_false_iff.mpr q2
        · exact ha j (by omega)
      · have q2 : isW b s e k = true := Classical.byContradiction (fun x => by
          rw [if_neg x] at c
          exact absurd rfl c)
        unfold lw
        rw [pm_first_at (by omega) q2 ha]
  exact bTe_lineOf_0 (loop 7 0 (by omega) (fun j hj => absurd hj (Nat.not_lt_zero _)))
/-! the reference's words -/
theorem by_at {M : pm_M} {n q : Nat} {b : Nat → Nat} (h : tpm M n b) (hq : q ≤ 320) : fMo_byteAt (nI q) M = rb n b q ∧ sMo_byteAt (nI q) M := by
  obtain ⟨hn, h13, hb⟩ := h
  unfold fMo_byteAt sMo_byteAt rb
  rw [h13, pm_cl4 (by omega)]
  refine ⟨?_, fun _ => trivial, fun c => ?_⟩
  · by_cases c : q < n
    · rw [if_neg (fun x => by have := (pm_le4 (by omega) (by omega)).mp x; omega), if_pos c, (hb q c).2]
    · rw [if_pos ((pm_le4 (by omega) (by omega)).mpr (by omega)), if_neg c]
  · have c1 : ¬ n ≤ q := fun x => c ((pm_le4 (by omega) (by omega)).mpr x)
    exact pm_vin (by omega) (by omega)
section WM
variable {M : pm_M} {n s e : Nat} {b : Nat → Nat}
theorem s_is (h : tpm M n b) (hs : s ≤ e) (he : e ≤ n) (h15 : M.1 29 0 15 = nI s) (a1 a2 a3 a4 : Int32) : sMo_is a1 a2 a3 a4 M := by
  have hn := h.1
  unfold sMo_is
  rw [h15, show nI s + 2 = nI (s + 2) from nI_add s 2, nI_1]
  exact ⟨fun _ => ⟨(by_at h (by omega)).2, fun _ => ⟨(by_at h (by omega)).2, fun _ => (by_at h (by omega)).2, fun _ => trivial⟩, fun _ => trivial⟩, fun _ => trivial⟩
theorem s_he (h : tpm M n b) (hs : s ≤ e) (he : e ≤ n) (h15 : M.1 29 0 15 = nI s) (a1 a2 a3 a4 : Int32) : sMo_hasEnd a1 a2 a3 a4 M := by
  have hn := h.1
  have e3 := (by_at (q := s + 3) h (by omega)).2
  have e4 := (by_at (q := s + 4) h (by omega)).2
  have e5 := (by_at (q := s + 5) h (by omega)).2
  have e6 := (by_at (q := s + 6) h (by omega)).2
  unfold sMo_hasEnd sMo_hasEnd_32 sMo_hasEnd_50
  rw [h15, show nI s + 3 = nI (s + 3) from nI_add s 3, show nI s + 4 = nI (s + 4) from nI_add s 4, show nI s + 5 = nI (s + 5) from nI_add s 5, show nI s + 6 = nI (s + 6) from nI_add s 6]
  have k50 : (a4 = 0 → True) ∧ (¬ (a4 = 0) → sMo_byteAt (nI (s + 6)) M) := ⟨fun _ => trivial, fun _ => e6⟩
  have k32 : (a3 = 0 → (a4 = 0 → True) ∧ (¬ (a4 = 0) → sMo_byteAt (nI (s + 6)) M)) ∧ (¬ (a3 = 0) → sMo_byteAt (nI (s + 5)) M ∧ (fMo_byteAt (nI (s + 5)) M = a3 → (a4 = 0 → True) ∧ (¬ (a4 = 0) → sMo_byteAt (nI (s + 6)) M)) ∧ (¬ (fMo_byteAt (nI (s + 5)) M = a3) → True)) := ⟨fun _ => k50, fun _ => ⟨e5, fun _ => k50, fun _ => trivial⟩⟩
  exact ⟨e3, fun _ => ⟨fun _ => k32, fun _ => ⟨e4, fun _ => k32, fun _ => trivial⟩⟩, fun _ => trivial⟩
theorem w_whole (h : tpm M n b) (hs : s ≤ e) (he : e ≤ n) (h14 : M.1 29 0 14 = nI e) (h15 : M.1 29 0 15 = nI s) (r : Int32) : (if fMo_is 5 119 104 111 M = 0 then r else (if fMo_hasEnd 108 101 0 0 M = 0 then r else 0)) = if isW b s e 0 = true then 0 else r := by
  have hn := h.1
  by_cases hL : e - s = 5
  · have a0 : (fMo_byteAt (nI (s)) M = 119) ↔ b (s) = 119 := by
      rw [(by_at h (by omega)).1, rb, if_pos (by omega)]
      exact pm_eq4 (a := b (s)) (b := 119) (by have := (h.2.2 (s) (by omega)).1; omega) (by omega)
    have a1 : (fMo_byteAt (nI (s + 1)) M = 104) ↔ b (s + 1) = 104 := by
      rw [(by_at h (by omega)).1, rb, if_pos (by omega)]
      exact pm_eq4 (a := b (s + 1)) (b := 104) (by have := (h.2.2 (s + 1) (by omega)).1; omega) (by omega)
    have a2 : (fMo_byteAt (nI (s + 2)) M = 111) ↔ b (s + 2) = 111 := by
      rw [(by_at h (by omega)).1, rb, if_pos (by omega)]
      exact pm_eq4 (a := b (s + 2)) (b := 111) (by have := (h.2.2 (s + 2) (by omega)).1; omega) (by omega)
    have a3 : (fMo_byteAt (nI (s + 3)) M = 108) ↔ b (s + 3) = 108 := by
      rw [(by_at h (by omega)).1, rb, if_pos (by omega)]
      exact pm_eq4 (a := b (s + 3)) (b := 108) (by have := (h.2.2 (s + 3) (by omega)).1; omega) (by omega)
    have a4 : (fMo_byteAt (nI (s + 4)) M = 101) ↔ b (s + 4) = 101 := by
      rw [(by_at h (by omega)).1, rb, if_pos (by omega)]
      exact pm_eq4 (a := b (s + 4)) (b := 101) (by have := (h.2.2 (s + 4) (by omega)).1; omega) (by omega)
    have iw : isW b s e 0 = (decide (e - s = 5) && (((((true && decide (b (s) = 119)) && decide (b (s + 1) = 104)) && decide (b (s + 2) = 111)) && decide (b (s + 3) = 108)) && decide (b (s + 4) = 101))) := rfl
    have x1 : fMo_is 5 119 104 111 M = if b (s) = 119 ∧ b (s + 1) = 104 ∧ b (s + 2) = 111 then 1 else 0 := by
      unfold fMo_is
      rw [h14, h15, pk_sub hs, hL, if_pos (show nI 5 = 5 from rfl), show nI s + 2 = nI (s + 2) from nI_add s 2, nI_1]
      simp only [a0, a1, a2]
      by_cases h0 : b (s) = 119
      · by_cases h1 : b (s + 1) = 104
        · by_cases h2 : b (s + 2) = 111
          · simp [h0, h1, h2]
          · simp [h0, h1, h2]
        · simp [h0, h1]
      · simp [h0]
    have x2 : fMo_hasEnd 108 101 0 0 M = if b (s + 3) = 108 ∧ b (s + 4) = 101 then 1 else 0 := by
      unfold fMo_hasEnd fMo_hasEnd_32 fMo_hasEnd_50
      rw [h15, show nI s + 3 = nI (s + 3) from nI_add s 3, show nI s + 4 = nI (s + 4) from nI_add s 4, show nI s + 5 = nI (s + 5) from nI_add s 5, show nI s + 6 = nI (s + 6) from nI_add s 6]
      simp only [a3, a4]
      by_cases h3 : b (s + 3) = 108
      · by_cases h4 : b (s + 4) = 101
        · simp [h3, h4]
        · simp [h3, h4]
      · simp [h3]
    rw [x1, x2, iw, hL]
    by_cases y1 : b (s) = 119 ∧ b (s + 1) = 104 ∧ b (s + 2) = 111
    · rw [if_pos y1, if_neg (by decide)]
      by_cases y2 : b (s + 3) = 108 ∧ b (s + 4) = 101
      · rw [if_pos y2, if_neg (by decide), if_pos]
        simp [y1, y2]
      · rw [if_neg y2, if_pos rfl, if_neg]
        intro q
        apply y2
        simp at q
        omega
    · rw [if_neg y1, if_pos rfl, if_neg]
      intro q
      apply y1
      simp at q
      omega
  · have x1 : fMo_is 5 119 104 111 M = 0 := by
      unfold fMo_is
      rw [h14, h15, pk_sub hs, if_neg (show ¬ nI (e - s) = 5 from fun q => hL ((pm_eq4 (a := e - s) (b := 5) (by omega) (by omega)).mp q))]
    have iw : isW b s e 0 = false := by
      unfold isW
      rw [decide_eq_false (show ¬ e - s = wl 0 from hL), Bool.false_and]
    rw [x1, if_pos rfl, iw, if_neg (by decide)]
theorem w_hired (h : tpm M n b) (hs : s ≤ e) (he : e ≤ n) (h14 : M.1 29 0 14 = nI e) (h15 : M.1 29 0 15 = nI s) (r : Int32) : (if fMo_is 5 104 105 114 M = 0 then r else (if fMo_hasEnd 101 100 0 0 M = 0 then r else 1)) = if isW b s e 1 = true then 1 else r := by
  have hn := h.1
  by_cases hL : e - s = 5
  · have a0 : (fMo_byteAt (nI (s)) M = 104) ↔ b (s) = 104 := by
      rw [(by_at h (by omega)).1, rb, if_pos (by omega)]
      exact pm_eq4 (a := b (s)) (b := 104) (by have := (h.2.2 (s) (by omega)).1; omega) (by omega)
    have a1 : (fMo_byteAt (nI (s + 1)) M = 105) ↔ b (s + 1) = 105 := by
      rw [(by_at h (by omega)).1, rb, if_pos (by omega)]
      exact pm_eq4 (a := b (s + 1)) (b := 105) (by have := (h.2.2 (s + 1) (by omega)).1; omega) (by omega)
    have a2 : (fMo_byteAt (nI (s + 2)) M = 114) ↔ b (s + 2) = 114 := by
      rw [(by_at h (by omega)).1, rb, if_pos (by omega)]
      exact pm_eq4 (a := b (s + 2)) (b := 114) (by have := (h.2.2 (s + 2) (by omega)).1; omega) (by omega)
    have a3 : (fMo_byteAt (nI (s + 3)) M = 101) ↔ b (s + 3) = 101 := by
      rw [(by_at h (by omega)).1, rb, if_pos (by omega)]
      exact pm_eq4 (a := b (s + 3)) (b := 101) (by have := (h.2.2 (s + 3) (by omega)).1; omega) (by omega)
    have a4 : (fMo_byteAt (nI (s + 4)) M = 100) ↔ b (s + 4) = 100 := by
      rw [(by_at h (by omega)).1, rb, if_pos (by omega)]
      exact pm_eq4 (a := b (s + 4)) (b := 100) (by have := (h.2.2 (s + 4) (by omega)).1; omega) (by omega)
    have iw : isW b s e 1 = (decide (e - s = 5) && (((((true && decide (b (s) = 104)) && decide (b (s + 1) = 105)) && decide (b (s + 2) = 114)) && decide (b (s + 3) = 101)) && decide (b (s + 4) = 100))) := rfl
    have x1 : fMo_is 5 104 105 114 M = if b (s) = 104 ∧ b (s + 1) = 105 ∧ b (s + 2) = 114 then 1 else 0 := by
      unfold fMo_is
      rw [h14, h15, pk_sub hs, hL, if_pos (show nI 5 = 5 from rfl), show nI s + 2 = nI (s + 2) from nI_add s 2, nI_1]
      simp only [a0, a1, a2]
      by_cases h0 : b (s) = 104
      · by_cases h1 : b (s + 1) = 105
        · by_cases h2 : b (s + 2) = 114
          · simp [h0, h1, h2]
          · simp [h0, h1, h2]
        · simp [h0, h1]
      · simp [h0]
    have x2 : fMo_hasEnd 101 100 0 0 M = if b (s + 3) = 101 ∧ b (s + 4) = 100 then 1 else 0 := by
      unfold fMo_hasEnd fMo_hasEnd_32 fMo_hasEnd_50
      rw [h15, show nI s + 3 = nI (s + 3) from nI_add s 3, show nI s + 4 = nI (s + 4) from nI_add s 4, show nI s + 5 = nI (s + 5) from nI_add s 5, show nI s + 6 = nI (s + 6) from nI_add s 6]
      simp only [a3, a4]
      by_cases h3 : b (s + 3) = 101
      · by_cases h4 : b (s + 4) = 100
        · simp [h3, h4]
        · simp [h3, h4]
      · simp [h3]
    rw [x1, x2, iw, hL]
    by_cases y1 : b (s) = 104 ∧ b (s + 1) = 105 ∧ b (s + 2) = 114
    · rw [if_pos y1, if_neg (by decide)]
      by_cases y2 : b (s + 3) = 101 ∧ b (s + 4) = 100
      · rw [if_pos y2, if_neg (by decide), if_pos]
        simp [y1, y2]
      · rw [if_neg y2, if_pos rfl, if_neg]
        intro q
        apply y2
        simp at q
        omega
    · rw [if_neg y1, if_pos rfl, if_neg]
      intro q
      apply y1
      simp at q
      omega
  · have x1 : fMo_is 5 104 105 114 M = 0 := by
      unfold fMo_is
      rw [h14, h15, pk_sub hs, if_neg (show ¬ nI (e - s) = 5 from fun q => hL ((pm_eq4 (a := e - s) (b := 5) (by omega) (by omega)).mp q))]
    have iw : isW b s e 1 = false := by
      unfold isW
      rw [decide_eq_false (show ¬ e - s = wl 1 from hL), Bool.false_and]
    rw [x1, if_pos rfl, iw, if_neg (by decide)]
theorem w_split (h : tpm M n b) (hs : s ≤ e) (he : e ≤ n) (h14 : M.1 29 0 14 = nI e) (h15 : M.1 29 0 15 = nI s) (r : Int32) : (if fMo_is 5 115 112 108 M = 0 then r else (if fMo_hasEnd 105 116 0 0 M = 0 then r else 2)) = if isW b s e 2 = true then 2 else r := by
  have hn := h.1
  by_cases hL : e - s = 5
  · have a0 : (fMo_byteAt (nI (s)) M = 115) ↔ b (s) = 115 := by
      rw [(by_at h (by omega)).1, rb, if_pos (by omega)]
      exact pm_eq4 (a := b (s)) (b := 115) (by have := (h.2.2 (s) (by omega)).1; omega) (by omega)
    have a1 : (fMo_byteAt (nI (s + 1)) M = 112) ↔ b (s + 1) = 112 := by
      rw [(by_at h (by omega)).1, rb, if_pos (by omega)]
      exact pm_eq4 (a := b (s + 1)) (b := 112) (by have := (h.2.2 (s + 1) (by omega)).1; omega) (by omega)
    have a2 : (fMo_byteAt (nI (s + 2)) M = 108) ↔ b (s + 2) = 108 := by
      rw [(by_at h (by omega)).1, rb, if_pos (by omega)]
      exact pm_eq4 (a := b (s + 2)) (b := 108) (by have := (h.2.2 (s + 2) (by omega)).1; omega) (by omega)
    have a3 : (fMo_byteAt (nI (s + 3)) M = 105) ↔ b (s + 3) = 105 := by
      rw [(by_at h (by omega)).1, rb, if_pos (by omega)]
      exact pm_eq4 (a := b (s + 3)) (b := 105) (by have := (h.2.2 (s + 3) (by omega)).1; omega) (by omega)
    have a4 : (fMo_byteAt (nI (s + 4)) M = 116) ↔ b (s + 4) = 116 := by
      rw [(by_at h (by omega)).1, rb, if_pos (by omega)]
      exact pm_eq4 (a := b (s + 4)) (b := 116) (by have := (h.2.2 (s + 4) (by omega)).1; omega) (by omega)
    have iw : isW b s e 2 = (decide (e - s = 5) && (((((true && decide (b (s) = 115)) && decide (b (s + 1) = 112)) && decide (b (s + 2) = 108)) && decide (b (s + 3) = 105)) && decide (b (s + 4) = 116))) := rfl
    have x1 : fMo_is 5 115 112 108 M = if b (s) = 115 ∧ b (s + 1) = 112 ∧ b (s + 2) = 108 then 1 else 0 := by
      unfold fMo_is
      rw [h14, h15, pk_sub hs, hL, if_pos (show nI 5 = 5 from rfl), show nI s + 2 = nI (s + 2) from nI_add s 2, nI_1]
      simp only [a0, a1, a2]
      by_cases h0 : b (s) = 115
      · by_cases h1 : b (s + 1) = 112
        · by_cases h2 : b (s + 2) = 108
          · simp [h0, h1, h2]
          · simp [h0, h1, h2]
        · simp [h0, h1]
      · simp [h0]
    have x2 : fMo_hasEnd 105 116 0 0 M = if b (s + 3) = 105 ∧ b (s + 4) = 116 then 1 else 0 := by
      unfold fMo_hasEnd fMo_hasEnd_32 fMo_hasEnd_50
      rw [h15, show nI s + 3 = nI (s + 3) from nI_add s 3, show nI s + 4 = nI (s + 4) from nI_add s 4, show nI s + 5 = nI (s + 5) from nI_add s 5, show nI s + 6 = nI (s + 6) from nI_add s 6]
      simp only [a3, a4]
      by_cases h3 : b (s + 3) = 105
      · by_cases h4 : b (s + 4) = 116
        · simp [h3, h4]
        · simp [h3, h4]
      · simp [h3]
    rw [x1, x2, iw, hL]
    by_cases y1 : b (s) = 115 ∧ b (s + 1) = 112 ∧ b (s + 2) = 108
    · rw [if_pos y1, if_neg (by decide)]
      by_cases y2 : b (s + 3) = 105 ∧ b (s + 4) = 116
      · rw [if_pos y2, if_neg (by decide), if_pos]
        simp [y1, y2]
      · rw [if_neg y2, if_pos rfl, if_neg]
        intro q
        apply y2
        simp at q
        omega
    · rw [if_neg y1, if_pos rfl, if_neg]
      intro q
      apply y1
      simp at q
      omega
  · have x1 : fMo_is 5 115 112 108 M = 0 := by
      unfold fMo_is
      rw [h14, h15, pk_sub hs, if_neg (show ¬ nI (e - s) = 5 from fun q => hL ((pm_eq4 (a := e - s) (b := 5) (by omega) (by omega)).mp q))]
    have iw : isW b s e 2 = false := by
      unfold isW
      rw [decide_eq_false (show ¬ e - s = wl 2 from hL), Bool.false_and]
    rw [x1, if_pos rfl, iw, if_neg (by decide)]
theorem w_insured (h : tpm M n b) (hs : s ≤ e) (he : e ≤ n) (h14 : M.1 29 0 14 = nI e) (h15 : M.1 29 0 15 = nI s) (r : Int32) : (if fMo_is 7 105 110 115 M = 0 then r else (if fMo_hasEnd 117 114 101 100 M = 0 then r else 3)) = if isW b s e 3 = true then 3 else r := by
  have hn := h.1
  by_cases hL : e - s = 7
  · have a0 : (fMo_byteAt (nI (s)) M = 105) ↔ b (s) = 105 := by
      rw [(by_at h (by omega)).1, rb, if_pos (by omega)]
      exact pm_eq4 (a := b (s)) (b := 105) (by have := (h.2.2 (s) (by omega)).1; omega) (by omega)
    have a1 : (fMo_byteAt (nI (s + 1)) M = 110) ↔ b (s + 1) = 110 := by
      rw [(by_at h (by omega)).1, rb, if_pos (by omega)]
      exact pm_eq4 (a := b (s + 1)) (b := 110) (by have := (h.2.2 (s + 1) (by omega)).1; omega) (by omega)
    have a2 : (fMo_byteAt (nI (s + 2)) M = 115) ↔ b (s + 2) = 115 := by
      rw [(by_at h (by omega)).1, rb, if_pos (by omega)]
      exact pm_eq4 (a := b (s + 2)) (b := 115) (by have := (h.2.2 (s + 2) (by omega)).1; omega) (by omega)
    have a3 : (fMo_byteAt (nI (s + 3)) M = 117) ↔ b (s + 3) = 117 := by
      rw [(by_at h (by omega)).1, rb, if_pos (by omega)]
      exact pm_eq4 (a := b (s + 3)) (b := 117) (by have := (h.2.2 (s + 3) (by omega)).1; omega) (by omega)
    have a4 : (fMo_byteAt (nI (s + 4)) M = 114) ↔ b (s + 4) = 114 := by
      rw [(by_at h (by omega)).1, rb, if_pos (by omega)]
      exact pm_eq4 (a := b (s + 4)) (b := 114) (by have := (h.2.2 (s + 4) (by omega)).1; omega) (by omega)
    have a5 : (fMo_byteAt (nI (s + 5)) M = 101) ↔ b (s + 5) = 101 := by
      rw [(by_at h (by omega)).1, rb, if_pos (by omega)]
      exact pm_eq4 (a := b (s + 5)) (b := 101) (by have := (h.2.2 (s + 5) (by omega)).1; omega) (by omega)
    have a6 : (fMo_byteAt (nI (s + 6)) M = 100) ↔ b (s + 6) = 100 := by
      rw [(by_at h (by omega)).1, rb, if_pos (by omega)]
      exact pm_eq4 (a := b (s + 6)) (b := 100) (by have := (h.2.2 (s + 6) (by omega)).1; omega) (by omega)
    have iw : isW b s e 3 = (decide (e - s = 7) && (((((((true && decide (b (s) = 105)) && decide (b (s + 1) = 110)) && decide (b (s + 2) = 115)) && decide (b (s + 3) = 117)) && decide (b (s + 4) = 114)) && decide (b (s + 5) = 101)) && decide (b (s + 6) = 100))) := rfl
    have x1 : fMo_is 7 105 110 115 M = if b (s) = 105 ∧ b (s + 1) = 110 ∧ b (s + 2) = 115 then 1 else 0 := by
      unfold fMo_is
      rw [h14, h15, pk_sub hs, hL, if_pos (show nI 7 = 7 from rfl), show nI s + 2 = nI (s + 2) from nI_add s 2, nI_1]
      simp only [a0, a1, a2]
      by_cases h0 : b (s) = 105
      · by_cases h1 : b (s + 1) = 110
        · by_cases h2 : b (s + 2) = 115
          · simp [h0, h1, h2]
          · simp [h0, h1, h2]
        · simp [h0, h1]
      · simp [h0]
    have x2 : fMo_hasEnd 117 114 101 100 M = if b (s + 3) = 117 ∧ b (s + 4) = 114 ∧ b (s + 5) = 101 ∧ b (s + 6) = 100 then 1 else 0 := by
      unfold fMo_hasEnd fMo_hasEnd_32 fMo_hasEnd_50
      rw [h15, show nI s + 3 = nI (s + 3) from nI_add s 3, show nI s + 4 = nI (s + 4) from nI_add s 4, show nI s + 5 = nI (s + 5) from nI_add s 5, show nI s + 6 = nI (s + 6) from nI_add s 6]
      simp only [a3, a4, a5, a6]
      by_cases h3 : b (s + 3) = 117
      · by_cases h4 : b (s + 4) = 114
        · by_cases h5 : b (s + 5) = 101
          · by_cases h6 : b (s + 6) = 100
            · simp [h3, h4, h5, h6]
            · simp [h3, h4, h5, h6]
          · simp [h3, h4, h5]
        · simp [h3, h4]
      · simp [h3]
    rw [x1, x2, iw, hL]
    by_cases y1 : b (s) = 105 ∧ b (s + 1) = 110 ∧ b (s + 2) = 115
    · rw [if_pos y1, if_neg (by decide)]
      by_cases y2 : b (s + 3) = 117 ∧ b (s + 4) = 114 ∧ b (s + 5) = 101 ∧ b (s + 6) = 100
      · rw [if_pos y2, if_neg (by decide), if_pos]
        simp [y1, y2]
      · rw [if_neg y2, if_pos rfl, if_neg]
        intro q
        apply y2
        simp at q
        omega
    · rw [if_neg y1, if_pos rfl, if_neg]
      intro q
      apply y1
      simp at q
      omega
  · have x1 : fMo_is 7 105 110 115 M = 0 := by
      unfold fMo_is
      rw [h14, h15, pk_sub hs, if_neg (show ¬ nI (e - s) = 7 from fun q => hL ((pm_eq4 (a := e - s) (b := 7) (by omega) (by omega)).mp q))]
    have iw : isW b s e 3 = false := by
      unfold isW
      rw [decide_eq_false (show ¬ e - s = wl 3 from hL), Bool.false_and]
    rw [x1, if_pos rfl, iw, if_neg (by decide)]
theorem w_person (h : tpm M n b) (hs : s ≤ e) (he : e ≤ n) (h14 : M.1 29 0 14 = nI e) (h15 : M.1 29 0 15 = nI s) (r : Int32) : (if fMo_is 6 112 101 114 M = 0 then r else (if fMo_hasEnd 115 111 110 0 M = 0 then r else 4)) = if isW b s e 4 = true then 4 else r := by
  have hn := h.1
  by_cases hL : e - s = 6
  · have a0 : (fMo_byteAt (nI (s)) M = 112) ↔ b (s) = 112 := by
      rw [(by_at h (by omega)).1, rb, if_pos (by omega)]
      exact pm_eq4 (a := b (s)) (b := 112) (by have := (h.2.2 (s) (by omega)).1; omega) (by omega)
    have a1 : (fMo_byteAt (nI (s + 1)) M = 101) ↔ b (s + 1) = 101 := by
      rw [(by_at h (by omega)).1, rb, if_pos (by omega)]
      exact pm_eq4 (a := b (s + 1)) (b := 101) (by have := (h.2.2 (s + 1) (by omega)).1; omega) (by omega)
    have a2 : (fMo_byteAt (nI (s + 2)) M = 114) ↔ b (s + 2) = 114 := by
      rw [(by_at h (by omega)).1, rb, if_pos (by omega)]
      exact pm_eq4 (a := b (s + 2)) (b := 114) (by have := (h.2.2 (s + 2) (by omega)).1; omega) (by omega)
    have a3 : (fMo_byteAt (nI (s + 3)) M = 115) ↔ b (s + 3) = 115 := by
      rw [(by_at h (by omega)).1, rb, if_pos (by omega)]
      exact pm_eq4 (a := b (s + 3)) (b := 115) (by have := (h.2.2 (s + 3) (by omega)).1; omega) (by omega)
    have a4 : (fMo_byteAt (nI (s + 4)) M = 111) ↔ b (s + 4) = 111 := by
      rw [(by_at h (by omega)).1, rb, if_pos (by omega)]
      exact pm_eq4 (a := b (s + 4)) (b := 111) (by have := (h.2.2 (s + 4) (by omega)).1; omega) (by omega)
    have a5 : (fMo_byteAt (nI (s + 5)) M = 110) ↔ b (s + 5) = 110 := by
      rw [(by_at h (by omega)).1, rb, if_pos (by omega)]
      exact pm_eq4 (a := b (s + 5)) (b := 110) (by have := (h.2.2 (s + 5) (by omega)).1; omega) (by omega)
    have iw : isW b s e 4 = (decide (e - s = 6) && ((((((true && decide (b (s) = 112)) && decide (b (s + 1) = 101)) && decide (b (s + 2) = 114)) && decide (b (s + 3) = 115)) && decide (b (s + 4) = 111)) && decide (b (s + 5) = 110))) := rfl
    have x1 : fMo_is 6 112 101 114 M = if b (s) = 112 ∧ b (s + 1) = 101 ∧ b (s + 2) = 114 then 1 else 0 := by
      unfold fMo_is
      rw [h14, h15, pk_sub hs, hL, if_pos (show nI 6 = 6 from rfl), show nI s + 2 = nI (s + 2) from nI_add s 2, nI_1]
      simp only [a0, a1, a2]
      by_cases h0 : b (s) = 112
      · by_cases h1 : b (s + 1) = 101
        · by_cases h2 : b (s + 2) = 114
          · simp [h0, h1, h2]
          · simp [h0, h1, h2]
        · simp [h0, h1]
      · simp [h0]
    have x2 : fMo_hasEnd 115 111 110 0 M = if b (s + 3) = 115 ∧ b (s + 4) = 111 ∧ b (s + 5) = 110 then 1 else 0 := by
      unfold fMo_hasEnd fMo_hasEnd_32 fMo_hasEnd_50
      rw [h15, show nI s + 3 = nI (s + 3) from nI_add s 3, show nI s + 4 = nI (s + 4) from nI_add s 4, show nI s + 5 = nI (s + 5) from nI_add s 5, show nI s + 6 = nI (s + 6) from nI_add s 6]
      simp only [a3, a4, a5]
      by_cases h3 : b (s + 3) = 115
      · by_cases h4 : b (s + 4) = 111
        · by_cases h5 : b (s + 5) = 110
          · simp [h3, h4, h5]
          · simp [h3, h4, h5]
        · simp [h3, h4]
      · simp [h3]
    rw [x1, x2, iw, hL]
    by_cases y1 : b (s) = 112 ∧ b (s + 1) = 101 ∧ b (s + 2) = 114
    · rw [if_pos y1, if_neg (by decide)]
      by_cases y2 : b (s + 3) = 115 ∧ b (s + 4) = 111 ∧ b (s + 5) = 110
      · rw [if_pos y2, if_neg (by decide), if_pos]
        simp [y1, y2]
      · rw [if_neg y2, if_pos rfl, if_neg]
        intro q
        apply y2
        simp at q
        omega
    · rw [if_neg y1, if_pos rfl, if_neg]
      intro q
      apply y1
      simp at q
      omega
  · have x1 : fMo_is 6 112 101 114 M = 0 := by
      unfold fMo_is
      rw [h14, h15, pk_sub hs, if_neg (show ¬ nI (e - s) = 6 from fun q => hL ((pm_eq4 (a := e - s) (b := 6) (by omega) (by omega)).mp q))]
    have iw : isW b s e 4 = false := by
      unfold isW
      rw [decide_eq_false (show ¬ e - s = wl 4 from hL), Bool.false_and]
    rw [x1, if_pos rfl, iw, if_neg (by decide)]
theorem w_prize (h : tpm M n b) (hs : s ≤ e) (he : e ≤ n) (h14 : M.1 29 0 14 = nI e) (h15 : M.1 29 0 15 = nI s) (r : Int32) : (if fMo_is 5 112 114 105 M = 0 then r else (if fMo_hasEnd 122 101 0 0 M = 0 then r else 5)) = if isW b s e 5 = true then 5 else r := by
  have hn := h.1
  by_cases hL : e - s = 5
  · have a0 : (fMo_byteAt (nI (s)) M = 112) ↔ b (s) = 112 := by
      rw [(by_at h (by omega)).1, rb, if_pos (by omega)]
      exact pm_eq4 (a := b (s)) (b := 112) (by have := (h.2.2 (s) (by omega)).1; omega) (by omega)
    have a1 : (fMo_byteAt (nI (s + 1)) M = 114) ↔ b (s + 1) = 114 := by
      rw [(by_at h (by omega)).1, rb, if_pos (by omega)]
      exact pm_eq4 (a := b (s + 1)) (b := 114) (by have := (h.2.2 (s + 1) (by omega)).1; omega) (by omega)
    have a2 : (fMo_byteAt (nI (s + 2)) M = 105) ↔ b (s + 2) = 105 := by
      rw [(by_at h (by omega)).1, rb, if_pos (by omega)]
      exact pm_eq4 (a := b (s + 2)) (b := 105) (by have := (h.2.2 (s + 2) (by omega)).1; omega) (by omega)
    have a3 : (fMo_byteAt (nI (s + 3)) M = 122) ↔ b (s + 3) = 122 := by
      rw [(by_at h (by omega)).1, rb, if_pos (by omega)]
      exact pm_eq4 (a := b (s + 3)) (b := 122) (by have := (h.2.2 (s + 3) (by omega)).1; omega) (by omega)
    have a4 : (fMo_byteAt (nI (s + 4)) M = 101) ↔ b (s + 4) = 101 := by
      rw [(by_at h (by omega)).1, rb, if_pos (by omega)]
      exact pm_eq4 (a := b (s + 4)) (b := 101) (by have := (h.2.2 (s + 4) (by omega)).1; omega) (by omega)
    have iw : isW b s e 5 = (decide (e - s = 5) && (((((true && decide (b (s) = 112)) && decide (b (s + 1) = 114)) && decide (b (s + 2) = 105)) && decide (b (s + 3) = 122)) && decide (b (s + 4) = 101))) := rfl
    have x1 : fMo_is 5 112 114 105 M = if b (s) = 112 ∧ b (s + 1) = 114 ∧ b (s + 2) = 105 then 1 else 0 := by
      unfold fMo_is
      rw [h14, h15, pk_sub hs, hL, if_pos (show nI 5 = 5 from rfl), show nI s + 2 = nI (s + 2) from nI_add s 2, nI_1]
      simp only [a0, a1, a2]
      by_cases h0 : b (s) = 112
      · by_cases h1 : b (s + 1) = 114
        · by_cases h2 : b (s + 2) = 105
          · simp [h0, h1, h2]
          · simp [h0, h1, h2]
        · simp [h0, h1]
      · simp [h0]
    have x2 : fMo_hasEnd 122 101 0 0 M = if b (s + 3) = 122 ∧ b (s + 4) = 101 then 1 else 0 := by
      unfold fMo_hasEnd fMo_hasEnd_32 fMo_hasEnd_50
      rw [h15, show nI s + 3 = nI (s + 3) from nI_add s 3, show nI s + 4 = nI (s + 4) from nI_add s 4, show nI s + 5 = nI (s + 5) from nI_add s 5, show nI s + 6 = nI (s + 6) from nI_add s 6]
      simp only [a3, a4]
      by_cases h3 : b (s + 3) = 122
      · by_cases h4 : b (s + 4) = 101
        · simp [h3, h4]
        · simp [h3, h4]
      · simp [h3]
    rw [x1, x2, iw, hL]
    by_cases y1 : b (s) = 112 ∧ b (s + 1) = 114 ∧ b (s + 2) = 105
    · rw [if_pos y1, if_neg (by decide)]
      by_cases y2 : b (s + 3) = 122 ∧ b (s + 4) = 101
      · rw [if_pos y2, if_neg (by decide), if_pos]
        simp [y1, y2]
      · rw [if_neg y2, if_pos rfl, if_neg]
        intro q
        apply y2
        simp at q
        omega
    · rw [if_neg y1, if_pos rfl, if_neg]
      intro q
      apply y1
      simp at q
      omega
  · have x1 : fMo_is 5 112 114 105 M = 0 := by
      unfold fMo_is
      rw [h14, h15, pk_sub hs, if_neg (show ¬ nI (e - s) = 5 from fun q => hL ((pm_eq4 (a := e - s) (b := 5) (by omega) (by omega)).mp q))]
    have iw : isW b s e 5 = false := by
      unfold isW
      rw [decide_eq_false (show ¬ e - s = wl 5 from hL), Bool.false_and]
    rw [x1, if_pos rfl, iw, if_neg (by decide)]
theorem w_draw (h : tpm M n b) (hs : s ≤ e) (he : e ≤ n) (h14 : M.1 29 0 14 = nI e) (h15 : M.1 29 0 15 = nI s) (r : Int32) : (if fMo_is 4 100 114 97 M = 0 then r else (if fMo_hasEnd 119 0 0 0 M = 0 then r else 6)) = if isW b s e 6 = true then 6 else r := by
  have hn := h.1
  by_cases hL : e - s = 4
  · have a0 : (fMo_byteAt (nI (s)) M = 100) ↔ b (s) = 100 := by
      rw [(by_at h (by omega)).1, rb, if_pos (by omega)]
      exact pm_eq4 (a := b (s)) (b := 100) (by have := (h.2.2 (s) (by omega)).1; omega) (by omega)
    have a1 : (fMo_byteAt (nI (s + 1)) M = 114) ↔ b (s + 1) = 114 := by
      rw [(by_at h (by omega)).1, rb, if_pos (by omega)]
      exact pm_eq4 (a := b (s + 1)) (b := 114) (by have := (h.2.2 (s + 1) (by omega)).1; omega) (by omega)
    have a2 : (fMo_byteAt (nI (s + 2)) M = 97) ↔ b (s + 2) = 97 := by
      rw [(by_at h (by omega)).1, rb, if_pos (by omega)]
      exact pm_eq4 (a := b (s + 2)) (b := 97) (by have := (h.2.2 (s + 2) (by omega)).1; omega) (by omega)
    have a3 : (fMo_byteAt (nI (s + 3)) M = 119) ↔ b (s + 3) = 119 := by
      rw [(by_at h (by omega)).1, rb, if_pos (by omega)]
      exact pm_eq4 (a := b (s + 3)) (b := 119) (by have := (h.2.2 (s + 3) (by omega)).1; omega) (by omega)
    have iw : isW b s e 6 = (decide (e - s = 4) && ((((true && decide (b (s) = 100)) && decide (b (s + 1) = 114)) && decide (b (s + 2) = 97)) && decide (b (s + 3) = 119))) := rfl
    have x1 : fMo_is 4 100 114 97 M = if b (s) = 100 ∧ b (s + 1) = 114 ∧ b (s + 2) = 97 then 1 else 0 := by
      unfold fMo_is
      rw [h14, h15, pk_sub hs, hL, if_pos (show nI 4 = 4 from rfl), show nI s + 2 = nI (s + 2) from nI_add s 2, nI_1]
      simp only [a0, a1, a2]
      by_cases h0 : b (s) = 100
      · by_cases h1 : b (s + 1) = 114
        · by_cases h2 : b (s + 2) = 97
          · simp [h0, h1, h2]
          · simp [h0, h1, h2]
        · simp [h0, h1]
      · simp [h0]
    have x2 : fMo_hasEnd 119 0 0 0 M = if b (s + 3) = 119 then 1 else 0 := by
      unfold fMo_hasEnd fMo_hasEnd_32 fMo_hasEnd_50
      rw [h15, show nI s + 3 = nI (s + 3) from nI_add s 3, show nI s + 4 = nI (s + 4) from nI_add s 4, show nI s + 5 = nI (s + 5) from nI_add s 5, show nI s + 6 = nI (s + 6) from nI_add s 6]
      simp only [a3]
      by_cases h3 : b (s + 3) = 119
      · simp [h3]
      · simp [h3]
    rw [x1, x2, iw, hL]
    by_cases y1 : b (s) = 100 ∧ b (s + 1) = 114 ∧ b (s + 2) = 97
    · rw [if_pos y1, if_neg (by decide)]
      by_cases y2 : b (s + 3) = 119
      · rw [if_pos y2, if_neg (by decide), if_pos]
        simp [y1, y2]
      · rw [if_neg y2, if_pos rfl, if_neg]
        intro q
        apply y2
        simp at q
        omega
    · rw [if_neg y1, if_pos rfl, if_neg]
      intro q
      apply y1
      simp at q
      omega
  · have x1 : fMo_is 4 100 114 97 M = 0 := by
      unfold fMo_is
      rw [h14, h15, pk_sub hs, if_neg (show ¬ nI (e - s) = 4 from fun q => hL ((pm_eq4 (a := e - s) (b := 4) (by omega) (by omega)).mp q))]
    have iw : isW b s e 6 = false := by
      unfold isW
      rw [decide_eq_false (show ¬ e - s = wl 6 from hL), Bool.false_and]
    rw [x1, if_pos rfl, iw, if_neg (by decide)]
theorem lw_eq (b : Nat → Nat) (s e : Nat) : lw b s e = if isW b s e 0 = true then 0 else if isW b s e 1 = true then 1 else if isW b s e 2 = true then 2 else if isW b s e 3 = true then 3 else if isW b s e 4 = true then 4 else if isW b s e 5 = true then 5 else if isW b s e 6 = true then 6 else -4 := by
  unfold lw
  have no : ∀ j, ¬ isW b s e j = true → isW b s e j = false := fun j q => Bool.eq_false_iff.mpr q
  by_cases q0 : isW b s e 0 = true
  · rw [pm_first_at (i := 0) (by omega) q0 (fun j hj => ?_), if_pos q0]
    · rfl
    · omega
  · by_cases q1 : isW b s e 1 = true
    · rw [pm_first_at (i := 1) (by omega) q1 (fun j hj => ?_), if_neg q0, if_pos q1]
      · rfl
      · rcases (show j = 0 by omega) with rfl
        · exact no 0 q0
    · by_cases q2 : isW b s e 2 = true
      · rw [pm_first_at (i := 2) (by omega) q2 (fun j hj => ?_), if_neg q0, if_neg q1, if_pos q2]
        · rfl
        · rcases (show j = 0 ∨ j = 1 by omega) with rfl | rfl
          · exact no 0 q0
          · exact no 1 q1
      · by_cases q3 : isW b s e 3 = true
        · rw [pm_first_at (i := 3) (by omega) q3 (fun j hj => ?_), if_neg q0, if_neg q1, if_neg q2, if_pos q3]
          · rfl
          · rcases (show j = 0 ∨ j = 1 ∨ j = 2 by omega) with rfl | rfl | rfl
            · exact no 0 q0
            · exact no 1 q1
            · exact no 2 q2
        · by_cases q4 : isW b s e 4 = true
          · rw [pm_first_at (i := 4) (by omega) q4 (fun j hj => ?_), if_neg q0, if_neg q1, if_neg q2, if_neg q3, if_pos q4]
            · rfl
            · rcases (show j = 0 ∨ j = 1 ∨ j = 2 ∨ j = 3 by omega) with rfl | rfl | rfl | rfl
              · exact no 0 q0
              · exact no 1 q1
              · exact no 2 q2
              · exact no 3 q3
          · by_cases q5 : isW b s e 5 = true
            · rw [pm_first_at (i := 5) (by omega) q5 (fun j hj => ?_), if_neg q0, if_neg q1, if_neg q2, if_neg q3, if_neg q4, if_pos q5]
              · rfl
              · rcases (show j = 0 ∨ j = 1 ∨ j = 2 ∨ j = 3 ∨ j = 4 by omega) with rfl | rfl | rfl | rfl | rfl
                · exact no 0 q0
                · exact no 1 q1
                · exact no 2 q2
                · exact no 3 q3
                · exact no 4 q4
            · by_cases q6 : isW b s e 6 = true
              · rw [pm_first_at (i := 6) (by omega) q6 (fun j hj => ?_), if_neg q0, if_neg q1, if_neg q2, if_neg q3, if_neg q4, if_neg q5, if_pos q6]
                · rfl
                · rcases (show j = 0 ∨ j = 1 ∨ j = 2 ∨ j = 3 ∨ j = 4 ∨ j = 5 by omega) with rfl | rfl | rfl | rfl | rfl | rfl
                  · exact no 0 q0
                  · exact no 1 q1
                  · exact no 2 q2
                  · exact no 3 q3
                  · exact no 4 q4
                  · exact no 5 q5
              · rw [pm_first_no (fun j hj => ?_), if_neg q0, if_neg q1, if_neg q2, if_neg q3, if_neg q4, if_neg q5, if_neg q6]
                rcases (show j = 0 ∨ j = 1 ∨ j = 2 ∨ j = 3 ∨ j = 4 ∨ j = 5 ∨ j = 6 by omega) with rfl | rfl | rfl | rfl | rfl | rfl | rfl
                · exact no 0 q0
                · exact no 1 q1
                · exact no 2 q2
                · exact no 3 q3
                · exact no 4 q4
                · exact no 5 q5
                · exact no 6 q6
theorem m_lineNow (h : tpm M n b) (hs : s ≤ e) (he : e ≤ n) (h14 : M.1 29 0 14 = nI e) (h15 : M.1 29 0 15 = nI s) : pm_Ev mMo_lineNow [pm_r 29 0] M (some (pm_i (lw b s e))) M := by
  have i := s_is h hs he h15
  have j := s_he h hs he h15
  have s6 : sMo_lineNow_181 M := ⟨i _ _ _ _, fun _ => trivial, fun _ => j _ _ _ _⟩
  have s5 : sMo_lineNow_150 M := ⟨i _ _ _ _, fun _ => s6, fun _ => ⟨j _ _ _ _, fun _ => s6, fun _ => trivial⟩⟩
  have s4 : sMo_lineNow_119 M := ⟨i _ _ _ _, fun _ => s5, fun _ => ⟨j _ _ _ _, fun _ => s5, fun _ => trivial⟩⟩
  have s3 : sMo_lineNow_87 M := ⟨i _ _ _ _, fun _ => s4, fun _ => ⟨j _ _ _ _, fun _ => s4, fun _ => trivial⟩⟩
  have s2 : sMo_lineNow_58 M := ⟨i _ _ _ _, fun _ => s3, fun _ => ⟨j _ _ _ _, fun _ => s3, fun _ => trivial⟩⟩
  have s1 : sMo_lineNow_29 M := ⟨i _ _ _ _, fun _ => s2, fun _ => ⟨j _ _ _ _, fun _ => s2, fun _ => trivial⟩⟩
  have s0 : sMo_lineNow M := ⟨i _ _ _ _, fun _ => s1, fun _ => ⟨j _ _ _ _, fun _ => s1, fun _ => trivial⟩⟩
  have hev := eMo_lineNow s0
  rw [fMo_lineNow, w_whole h hs he h14 h15, fMo_lineNow_29, w_hired h hs he h14 h15, fMo_lineNow_58, w_split h hs he h14 h15, fMo_lineNow_87, w_insured h hs he h14 h15, fMo_lineNow_119, w_person h hs he h14 h15, fMo_lineNow_150, w_prize h hs he h14 h15, fMo_lineNow_181, w_draw h hs he h14 h15, ← lw_eq] at hev
  exact hev
end WM
