/-! kind, buy -/
def aBest (g : Nat → Int32) : Nat → Int32 × Int32
  | 0 => (0, -1000000)
  | i + 1 => if (aBest g i).2 < g i then (nI i, g i) else aBest g i
theorem c_kind_bad {M : pm_M} {f : Nat → Int32} {P T : Nat} {a1 : Int32} (h : cw M 0 f P T) (hv : wv f P T) (hb : ¬ ∃ t, t < T ∧ a1 = nI t) : pm_Ev mWt_kind [pm_r 0 0, pm_i a1] M (some (pm_i (-1))) M := by
  refine pm_Sem_of (ls := [some (pm_r 0 0), some (pm_i a1), none, none, none, none, none]) ok_mWt_kind (by decide +kernel) rfl (by decide) (Nat.le_of_ble_eq_true rfl) rfl ?_
  exact bWt_kind_0 eWh_hasTicket (bWt_kind_8 (fun _ => bWt_kind_11 ⟨rfl, rfl⟩) (fun h1 => absurd (has_bad h.2.1 hv.2.1 hb).1 h1))
theorem c_kind_st {M : pm_M} {f : Nat → Int32} {P T t : Nat} (h : cw M 0 f P T) (hv : wv f P T) (ht : t < T) (hd : ¬ f (8 + 5 * t) = -4) : pm_Ev mWt_kind [pm_r 0 0, pm_i (nI t)] M (some (pm_i (-2))) M := by
  refine pm_Sem_of (ls := [some (pm_r 0 0), some (pm_i (nI t)), none, none, none, none, none]) ok_mWt_kind (by decide +kernel) rfl (by decide) (Nat.le_of_ble_eq_true rfl) rfl ?_
  refine bWt_kind_0 eWh_hasTicket (bWt_kind_8 (fun q => ?_) (fun _ => bWt_kind_13 (eWh_isTicketIn (cw_in h hv.2.1 ht).2) (bWt_kind_21 (fun _ => bWt_kind_24 ⟨rfl, rfl⟩) (fun q => ?_))))
  · rw [(has_good h.2.1 hv.2.1 ht).1] at q
    exact absurd q (by decide)
  · rw [(cw_in h hv.2.1 ht).1, if_neg hd] at q
    exact absurd rfl q
theorem c_kind {M : pm_M} {f : Nat → Int32} {P T t o : Nat} (h : cw M 0 f P T) (hv : wv f P T) (ht : t < T) (hd : f (8 + 5 * t) = -4) (ho : f (5 + 5 * t) = nI o) (hoP : o < P) : ∃ M', pm_Ev mWt_kind [pm_r 0 0, pm_i (nI t)] M (some (pm_i (aBest (aG f T t 0 o) 4).1)) M' ∧ cs_eq M M' := by
  have h4 := hv.2.1
  have hP4 := hv.1
  suffices hG : ∃ M', pm_G mWt_kind 0 [some (pm_r 0 0), some (pm_i (nI t)), none, none, none, none, none] [] M (pm_D (some (pm_i (aBest (aG f T t 0 o) 4).1)) M') ∧ cs_eq M M' by
    obtain ⟨M', g1, g2⟩ := hG
    exact ⟨M', pm_Sem_of (ls := [some (pm_r 0 0), some (pm_i (nI t)), none, none, none, none, none]) ok_mWt_kind (by decide +kernel) rfl (by decide) (Nat.le_of_ble_eq_true rfl) rfl g1, g2⟩
  suffices hL : ∃ M', pm_G mWt_kind 57 [some (pm_r 0 0), some (pm_i (nI t)), some (pm_i (nI o)), some (pm_i (aBest (aG f T t 0 o) 0).1), some (pm_i (aBest (aG f T t 0 o) 0).2), some (pm_i (nI 0)), none] [] (gWh_copy 1 0 M) (pm_D (some (pm_i (aBest (aG f T t 0 o) 4).1)) M') ∧ cs_eq M M' by
    obtain ⟨M', g1, g2⟩ := hL
    refine ⟨M', ?_, g2⟩
    refine bWt_kind_0 eWh_hasTicket (bWt_kind_8 (fun q => ?_) (fun _ => bWt_kind_13 (eWh_isTicketIn (cw_in h h4 ht).2) (bWt_kind_21 (fun q => ?_) (fun _ => bWt_kind_27 (eWh_trait (sWh_all (by omega) (by simp))) (bWt_kind_36 eWh_copy (bWt_kind_48 ?_))))))
    · rw [(has_good h.2.1 h4 ht).1] at q
      exact absurd q (by decide)
    · rw [(cw_in h h4 ht).1, if_pos hd] at q
      exact absurd q (by decide)
    · rw [(cw_trait h h4 ht).2.1, ho]
      exact g1
  refine pm_upto (N := 4) (P := fun i => ∀ (M1 : pm_M) (g : Nat → Int32), cs_eq M M1 → cw M1 1 g P T → (∀ x, upd g (4 + 5 * t + 0) x = upd f (4 + 5 * t + 0) x) → ∃ M', pm_G mWt_kind 57 [some (pm_r 0 0), some (pm_i (nI t)), some (pm_i (nI o)), some (pm_i (aBest (aG f T t 0 o) i).1), some (pm_i (aBest (aG f T t 0 o) i).2), some (pm_i (nI i)), none] [] M1 (pm_D (some (pm_i (aBest (aG f T t 0 o) 4).1)) M') ∧ cs_eq M M') ?_ ?_ 0 (Nat.zero_le _) (gWh_copy 1 0 M) f cs_copy (cw_copy (by decide) h hP4 h4) (fun _ => rfl)
  · intro M1 g hcs _ _
    exact ⟨M1, bWt_kind_57 (fun _ => bWt_kind_108 ⟨rfl, rfl⟩) (fun q => absurd (show nI 3 < nI 4 from (pm_lt4 (by omega) (by omega)).mpr (by omega)) q), hcs⟩
  · intro i hi ih M1 g hcs hw hg
    have hw2 : cw (gWh_setTrait 1 (nI t) 0 (nI i) M1) 1 (upd f (4 + 5 * t + 0) (nI i)) P T := by
      have := cw_set (v := nI i) hw hP4 h4 ht (show 0 < 4 by omega)
      rw [hg] at this
      exact this
    have hv2 : wv (upd f (4 + 5 * t + 0) (nI i)) P T := wv_trait hv ht (Or.inl ⟨rfl, by omega⟩)
    obtain ⟨m1, m2⟩ := cw_meanSum hw2 hv2 hoP
    have hcs2 : cs_eq M (gRe_meanSum 1 (nI o) (gWh_setTrait 1 (nI t) 0 (nI i) M1)) := cs_trans hcs (cs_trans cs_trait cs_weigh)
    obtain ⟨M', g1, g2⟩ := ih (gRe_meanSum 1 (nI o) (gWh_setTrait 1 (nI t) 0 (nI i) M1)) (upd f (4 + 5 * t + 0) (nI i)) hcs2 (cw_wk hw2) (fun x => upd_upd ..)
    refine ⟨M', ?_, g2⟩
    refine bWt_kind_57 (fun q => ?_) (fun _ => bWt_kind_63 (eWh_setTrait (re_ix (show t < 4 by omega) (show 0 < 4 by omega)).2) (bWt_kind_74 (eRe_meanSum m1) ?_))
    · have := (pm_lt4 (a := 3) (b := i) (by omega) (by omega)).mp q
      omega
    · rw [m2]
      rw [aBest, ← nI_1] at g1
      have hle : ∀ (b m : Int32) (x : Int32), pm_G mWt_kind 57 [some (pm_r 0 0), some (pm_i (nI t)), some (pm_i (nI o)), some (pm_i b), some (pm_i m), some (pm_i (nI i + 1)), none] [] (gRe_meanSum 1 (nI o) (gWh_setTrait 1 (nI t) 0 (nI i) M1)) (pm_D (some (pm_i (aBest (aG f T t 0 o) 4).1)) M') → pm_G mWt_kind 57 [some (pm_r 0 0), some (pm_i (nI t)), some (pm_i (nI o)), some (pm_i b), some (pm_i m), some (pm_i (nI i + 1)), some (pm_i x)] [] (gRe_meanSum 1 (nI o) (gWh_setTrait 1 (nI t) 0 (nI i) M1)) (pm_D (some (pm_i (aBest (aG f T t 0 o) 4).1)) M') := fun b m x hh => pm_G_le (ls' := [some (pm_r 0 0), some (pm_i (nI t)), some (pm_i (nI o)), some (pm_i b), some (pm_i m), some (pm_i (nI i + 1)), none]) ⟨Or.inr rfl, Or.inr rfl, Or.inr rfl, Or.inr rfl, Or.inr rfl, Or.inr rfl, Or.inl rfl, trivial⟩ hh
      by_cases hb : (aBest (aG f T t 0 o) i).2 < aG f T t 0 o i
      · rw [if_pos hb] at g1
        refine bWt_kind_86 (fun q => ?_) (fun _ => bWt_kind_95 (bWt_kind_102 (hle _ _ _ g1)))
        have q : aG f T t 0 o i ≤ (aBest (aG f T t 0 o) i).2 := q
        rw [Int32.lt_iff_toInt_lt] at hb
        rw [Int32.le_iff_toInt_le] at q
        omega
      · rw [if_neg hb] at g1
        refine bWt_kind_86 (fun _ => bWt_kind_102 (hle _ _ _ g1)) (fun q => ?_)
        have q : ¬ aG f T t 0 o i ≤ (aBest (aG f T t 0 o) i).2 := q
        rw [Int32.lt_iff_toInt_lt] at hb
        rw [Int32.le_iff_toInt_le] at q
        omega
def aBuy (f : Nat → Int32) (T p : Nat) : Nat → Int32 × Int32
  | 0 => (-4, aM f T p)
  | i + 1 => if f (8 + 5 * i) = -4 ∧ (aBuy f T p i).2 < aG f T i 1 p p then (nI i, aG f T i 1 p p) else aBuy f T p i
theorem c_buy_bad {M : pm_M} {f : Nat → Int32} {P T : Nat} {a1 : Int32} (h : cw M 0 f P T) (hv : wv f P T) (hb : ¬ ∃ t, t < P ∧ a1 = nI t) : pm_Ev mWt_buy [pm_r 0 0, pm_i a1] M (some (pm_i (-1))) M := by
  refine pm_Sem_of (ls := [some (pm_r 0 0), some (pm_i a1), none, none, none, none]) ok_mWt_buy (by decide +kernel) rfl (by decide) (Nat.le_of_ble_eq_true rfl) rfl ?_
  exact bWt_buy_0 eWh_hasPerson (bWt_buy_8 (fun _ => bWt_buy_11 ⟨rfl, rfl⟩) (fun h1 => absurd (hasP_bad h.1 hv.1 hb) h1))
theorem c_buy {M : pm_M} {f : Nat → Int32} {P T p : Nat} (h : cw M 0 f P T) (hv : wv f P T) (hp : p < P) : ∃ M', pm_Ev mWt_buy [pm_r 0 0, pm_i (nI p)] M (some (pm_i (aBuy f T p T).1)) M' ∧ cs_eq M M' := by
  have h4 := hv.2.1
  have hP4 := hv.1
  suffices hG : ∃ M', pm_G mWt_buy 0 [some (pm_r 0 0), some (pm_i (nI p)), none, none, none, none] [] M (pm_D (some (pm_i (aBuy f T p T).1)) M') ∧ cs_eq M M' by
    obtain ⟨M', g1, g2⟩ := hG
    exact ⟨M', pm_Sem_of (ls := [some (pm_r 0 0), some (pm_i (nI p)), none, none, none, none]) ok_mWt_buy (by decide +kernel) rfl (by decide) (Nat.le_of_ble_eq_true rfl) rfl g1, g2⟩
  obtain ⟨b1, b2⟩ := cw_meanSum h hv hp
  suffices hL : ∃ M', pm_G mWt_buy 32 [some (pm_r 0 0), some (pm_i (nI p)), some (pm_i (aBuy f T p 0).1), some (pm_i (aBuy f T p 0).2), some (pm_i (nI 0)), none] [] (gRe_meanSum 0 (nI p) M) (pm_D (some (pm_i (aBuy f T p T).1)) M') ∧ cs_eq M M' by
    obtain ⟨M', g1, g2⟩ := hL
    refine ⟨M', ?_, g2⟩
    refine bWt_buy_0 eWh_hasPerson (bWt_buy_8 (fun q => ?_) (fun _ => bWt_buy_13 (eRe_meanSum b1) (bWt_buy_28 ?_)))
    · rw [hasP_good h.1 hP4 hp] at q
      exact absurd q (by decide)
    · rw [b2]
      exact g1
  refine pm_upto (N := T) (P := fun i => ∀ (M1 : pm_M), cs_eq M M1 → ∃ M', pm_G mWt_buy 32 [some (pm_r 0 0), some (pm_i (nI p)), some (pm_i (aBuy f T p i).1), some (pm_i (aBuy f T p i).2), some (pm_i (nI i)), none] [] M1 (pm_D (some (pm_i (aBuy f T p T).1)) M') ∧ cs_eq M M') ?_ ?_ 0 (Nat.zero_le _) (gRe_meanSum 0 (nI p) M) cs_weigh
  · intro M1 hcs
    have hT1 := (cw_cs (by decide) h hcs).2.1
    exact ⟨M1, bWt_buy_32 (fun _ => bWt_buy_110 ⟨rfl, rfl⟩) (fun q => absurd (pm_yle hT1 (by omega)) q), hcs⟩
  · intro i hi ih M1 hcs
    have hw1 := cw_cs (by decide) h hcs
    have hin := cw_in hw1 h4 hi
    have step : ∀ (M2 : pm_M) (b m : Int32), cs_eq M M2 → (b, m) = aBuy f T p (i + 1) → ∃ M', pm_G mWt_buy 104 [some (pm_r 0 0), some (pm_i (nI p)), some (pm_i b), some (pm_i m), some (pm_i (nI i)), none] [] M2 (pm_D (some (pm_i (aBuy f T p T).1)) M') ∧ cs_eq M M' := by
      intro M2 b m hc2 hbm
      obtain ⟨M', g1, g2⟩ := ih M2 hc2
      rw [← hbm, ← nI_1] at g1
      exact ⟨M', bWt_buy_104 g1, g2⟩
    by_cases hd : f (8 + 5 * i) = -4
    · have hw2 : cw (gWh_setTrait 1 (nI i) 1 (nI p) (gWh_copy 1 0 M1)) 1 (upd f (4 + 5 * i + 1) (nI p)) P T := cw_set (v := nI p) (cw_copy (by decide) hw1 hP4 h4) hP4 h4 hi (show 1 < 4 by omega)
      have hv2 : wv (upd f (4 + 5 * i + 1) (nI p)) P T := wv_trait hv hi (Or.inr (Or.inl ⟨rfl, hp⟩))
      obtain ⟨m1, m2⟩ := cw_meanSum hw2 hv2 hp
      have hcs2 : cs_eq M (gRe_meanSum 1 (nI p) (gWh_setTrait 1 (nI i) 1 (nI p) (gWh_copy 1 0 M1))) := cs_trans hcs (cs_trans cs_copy (cs_trans cs_trait cs_weigh))
      by_cases hb : (aBuy f T p i).2 < aG f T i 1 p p
      · obtain ⟨M', g1, g2⟩ := step _ (nI i) (aG f T i 1 p p) hcs2 (by rw [aBuy, if_pos ⟨hd, hb⟩])
        refine ⟨M', bWt_buy_32 (fun q => absurd q (pm_nle hw1.2.1 hi (by omega))) (fun _ => bWt_buy_44 (eWh_isTicketIn hin.2) (bWt_buy_53 (fun q => ?_) (fun _ => bWt_buy_56 eWh_copy (bWt_buy_67 (eWh_setTrait (re_ix (show i < 4 by omega) (show 1 < 4 by omega)).2) (bWt_buy_78 (eRe_meanSum m1) ?_))))), g2⟩
        · rw [hin.1, if_pos hd] at q
          exact absurd q (by decide)
        · rw [m2]
          refine bWt_buy_90 (fun q => ?_) (fun _ => bWt_buy_98 (pm_G_le (ls' := [some (pm_r 0 0), some (pm_i (nI p)), some (pm_i (nI i)), some (pm_i (aG f T i 1 p p)), some (pm_i (nI i)), none]) ⟨Or.inr rfl, Or.inr rfl, Or.inr rfl, Or.inr rfl, Or.inr rfl, Or.inl rfl, trivial⟩ g1))
          have q : aG f T i 1 p p ≤ (aBuy f T p i).2 := q
          rw [Int32.lt_iff_toInt_lt] at hb
          rw [Int32.le_iff_toInt_le] at q
          omega
      · obtain ⟨M', g1, g2⟩ := step _ (aBuy f T p i).1 (aBuy f T p i).2 hcs2 (by rw [aBuy, if_neg (fun q => hb q.2)])
        refine ⟨M', bWt_buy_32 (fun q => absurd q (pm_nle hw1.2.1 hi (by omega))) (fun _ => bWt_buy_44 (eWh_isTicketIn hin.2) (bWt_buy_53 (fun q => ?_) (fun _ => bWt_buy_56 eWh_copy (bWt_buy_67 (eWh_setTrait (re_ix (show i < 4 by omega) (show 1 < 4 by omega)).2) (bWt_buy_78 (eRe_meanSum m1) ?_))))), g2⟩
        · rw [hin.1, if_pos hd] at q
          exact absurd q (by decide)
        · rw [m2]
          refine bWt_buy_90 (fun _ => pm_G_le (ls' := [some (pm_r 0 0), some (pm_i (nI p)), some (pm_i (aBuy f T p i).1), some (pm_i (aBuy f T p i).2), some (pm_i (nI i)), none]) ⟨Or.inr rfl, Or.inr rfl, Or.inr rfl, Or.inr rfl, Or.inr rfl, Or.inl rfl, trivial⟩ g1) (fun q => ?_)
          have q : ¬ aG f T i 1 p p ≤ (aBuy f T p i).2 := q
          rw [Int32.lt_iff_toInt_lt] at hb
          rw [Int32.le_iff_toInt_le] at q
          omega
    · obtain ⟨M', g1, g2⟩ := step M1 (aBuy f T p i).1 (aBuy f T p i).2 hcs (by rw [aBuy, if_neg (fun q => hd q.1)])
      refine ⟨M', bWt_buy_32 (fun q => absurd q (pm_nle hw1.2.1 hi (by omega))) (fun _ => bWt_buy_44 (eWh_isTicketIn hin.2) (bWt_buy_53 (fun _ => g1) (fun q => ?_))), g2⟩
      rw [hin.1, if_neg hd] at q
      exact absurd rfl q
