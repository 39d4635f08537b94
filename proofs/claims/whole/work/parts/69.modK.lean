/-! the reference: kind, buy -/
theorem m_kind_bad {M : pm_M} {f : Nat → Int32} {P T : Nat} {a : Int32} (hv : wv f P T) (hw : mw M f P T) (hb : ¬ ∃ t, t < T ∧ a = nI t) : pm_Ev mMo_kind [pm_r 29 0, pm_i a] M (some (pm_i (-1))) M := by
  refine pm_Sem_of (ls := [some (pm_r 29 0), some (pm_i a), none, none, none, none, none]) ok_mMo_kind (by decide +kernel) rfl (by decide) (Nat.le_of_ble_eq_true rfl) rfl ?_
  exact bMo_kind_0 eMo_isTicket (bMo_kind_5 (fun _ => bMo_kind_8 ⟨rfl, rfl⟩) (fun h1 => absurd (moT_bad hw.2.2 hv.2.1 hb) h1))
theorem m_kind_st {M : pm_M} {f : Nat → Int32} {P T t : Nat} (hv : wv f P T) (hw : mw M f P T) (ht : t < T) (hd : ¬ f (8 + 5 * t) = -4) : pm_Ev mMo_kind [pm_r 29 0, pm_i (nI t)] M (some (pm_i (-2))) M := by
  refine pm_Sem_of (ls := [some (pm_r 29 0), some (pm_i (nI t)), none, none, none, none, none]) ok_mMo_kind (by decide +kernel) rfl (by decide) (Nat.le_of_ble_eq_true rfl) rfl ?_
  have hd' := drawn_at hw hv.2.1 ht
  refine bMo_kind_0 eMo_isTicket (bMo_kind_5 (fun q => ?_) (fun _ => bMo_kind_10 (eMo_isDrawn hd'.2) (bMo_kind_15 (fun q => ?_) (fun _ => bMo_kind_18 ⟨rfl, rfl⟩))))
  · rw [moT_good hw.2.2 hv.2.1 ht] at q
    exact absurd q (by decide)
  · rw [hd'.1, if_neg hd] at q
    exact absurd q (by decide)
theorem m_kind {M : pm_M} {f : Nat → Int32} {P T t o : Nat} (hv : wv f P T) (hw : mw M f P T) (ht : t < T) (hd : f (8 + 5 * t) = -4) (ho : f (5 + 5 * t) = nI o) (hoP : o < P) : ∃ M', pm_Ev mMo_kind [pm_r 29 0, pm_i (nI t)] M (some (pm_i (aBest (aG f T t 0 o) 4).1)) M' ∧ ms_eq M M' := by
  have hT := hv.2.1
  have hd' := drawn_at hw hT ht
  have hwv : ∀ b, b < 4 → wv (upd f (4 + 5 * t + 0) (nI b)) P T ∧ aL (upd f (4 + 5 * t + 0) (nI b)) T = aL f T := fun b hb => ⟨wv_trait hv ht (Or.inl ⟨rfl, hb⟩), (aL_upd (f := f) (v := nI b) hT ht (show 0 < 4 by omega)).1⟩
  let Inv : Nat → Int32 → Int64 → Prop := fun i found most => (i = 0 ∧ found = -4) ∨ ∃ b, b < i ∧ b < 4 ∧ aBest (aG f T t 0 o) i = (nI b, aG f T t 0 o b) ∧ found = nI b ∧ most = Int64.ofInt (zSum (upd f (4 + 5 * t + 0) (nI b)) T o)
  suffices hL : ∃ M', pm_G mMo_kind 30 [some (pm_r 29 0), some (pm_i (nI t)), some (pm_l 0), none, some (pm_i (-4)), some (pm_i (nI 0)), none] [] M (pm_D (some (pm_i (aBest (aG f T t 0 o) 4).1)) M') ∧ ms_eq M M' by
    obtain ⟨M', g1, g2⟩ := hL
    refine ⟨M', ?_, g2⟩
    refine pm_Sem_of (ls := [some (pm_r 29 0), some (pm_i (nI t)), none, none, none, none, none]) ok_mMo_kind (by decide +kernel) rfl (by decide) (Nat.le_of_ble_eq_true rfl) rfl ?_
    refine bMo_kind_0 eMo_isTicket (bMo_kind_5 (fun q => ?_) (fun _ => bMo_kind_10 (eMo_isDrawn hd'.2) (bMo_kind_15 (fun _ => bMo_kind_21 g1) (fun q => ?_))))
    · rw [moT_good hw.2.2 hT ht] at q
      exact absurd q (by decide)
    · rw [hd'.1, if_pos hd] at q
      exact absurd rfl q
  refine pm_upto (N := 4) (P := fun i => ∀ M1 found most, ms_eq M M1 → Inv i found most → ∃ M', pm_G mMo_kind 30 [some (pm_r 29 0), some (pm_i (nI t)), some (pm_l most), none, some (pm_i found), some (pm_i (nI i)), none] [] M1 (pm_D (some (pm_i (aBest (aG f T t 0 o) 4).1)) M') ∧ ms_eq M M') ?_ ?_ 0 (Nat.zero_le _) M (-4) 0 ms_rfl (Or.inl ⟨rfl, rfl⟩)
  · intro M1 found most hms hI
    refine ⟨M1, ?_, hms⟩
    refine bMo_kind_30 (fun _ => bMo_kind_115 ?_) (fun q => absurd (show nI 4 ≤ nI 4 from (pm_le4 (by omega) (by omega)).mpr (by omega)) q)
    rcases hI with ⟨h, -⟩ | ⟨b, h1, h2, h3, h4, h5⟩
    · exact absurd h (by decide)
    · rw [h3, h4]
      exact ⟨rfl, rfl⟩
  · intro i hi ih M1 found most hms hI
    have hw1 := mw_ms hw hms
    obtain ⟨M2, k1, k2, k3, k4, k5, k6⟩ := m_trait (w := 0) (v := i) hv hw1 hoP ht (by omega) (Or.inl ⟨rfl, hi⟩)
    have hms2 := ms_trans hms k2
    have hown := owner_at (mw_ms hw1 (ms_tries (a := nI (4 + 5 * t + 0)) (b := nI i))) hT ht ho
    have eij : (4 + (5 * nI t)) + 0 = nI (4 + 5 * t + 0) := md_ij (show t < 4 by omega) (show 0 < 4 by omega)
    have hzi : (aG f T t 0 o i).toInt = zM (upd f (4 + 5 * t + 0) (nI i)) T o := aM_toInt k5 hoP
    -- to 58
    have go : ∀ M', pm_G mMo_kind 58 [some (pm_r 29 0), some (pm_i (nI t)), some (pm_l most), none, some (pm_i found), some (pm_i (nI i)), none] [] M2 (pm_D (some (pm_i (aBest (aG f T t 0 o) 4).1)) M') → pm_G mMo_kind 30 [some (pm_r 29 0), some (pm_i (nI t)), some (pm_l most), none, some (pm_i found), some (pm_i (nI i)), none] [] M1 (pm_D (some (pm_i (aBest (aG f T t 0 o) 4).1)) M') := by
      intro M' g
      refine bMo_kind_30 (fun q => ?_) (fun _ => bMo_kind_36 eMo_tries ?_)
      · have := (pm_le4 (a := 4) (b := i) (by omega) (by omega)).mp q
        omega
      · rw [eij]
        refine bMo_kind_49 (eMo_ownerOf hown.2) ?_
        rw [hown.1]
        exact bMo_kind_55 k1 g
    have go1 : ∀ M', pm_G mMo_kind 30 [some (pm_r 29 0), some (pm_i (nI t)), some (pm_l (Int64.ofInt (zSum (upd f (4 + 5 * t + 0) (nI i)) T o))), none, some (pm_i (nI i)), some (pm_i (nI (i + 1))), none] [] M2 (pm_D (some (pm_i (aBest (aG f T t 0 o) 4).1)) M') → pm_G mMo_kind 79 [some (pm_r 29 0), some (pm_i (nI t)), some (pm_l most), none, some (pm_i found), some (pm_i (nI i)), none] [pm_i 1] M2 (pm_D (some (pm_i (aBest (aG f T t 0 o) 4).1)) M') := by
      intro M' g
      refine bMo_kind_79 (fun q => absurd q (by decide)) (fun _ => bMo_kind_86 (bMo_kind_93 (fun q => absurd q (by decide)) (fun _ => bMo_kind_100 (bMo_kind_108 ?_))))
      rw [k4, nI_1]
      exact pm_G_le (ls' := [some (pm_r 29 0), some (pm_i (nI t)), some (pm_l (Int64.ofInt (zSum (upd f (4 + 5 * t + 0) (nI i)) T o))), none, some (pm_i (nI i)), some (pm_i (nI (i + 1))), none]) ⟨Or.inr rfl, Or.inr rfl, Or.inr rfl, Or.inl rfl, Or.inr rfl, Or.inr rfl, Or.inl rfl, trivial⟩ g
    rcases hI with ⟨h0, hf⟩ | ⟨b, h1, h2, h3, h4, h5⟩
    · subst h0
      obtain ⟨M', g1, g2⟩ := ih M2 (nI 0) (Int64.ofInt (zSum (upd f (4 + 5 * t + 0) (nI 0)) T o)) hms2 (Or.inr ⟨0, by omega, by omega, by
        rw [aBest, aBest, if_pos]
        rw [Int32.lt_iff_toInt_lt, hzi]
        have := zM_bd k5 hoP
        have e : (-1000000 : Int32).toInt = -1000000 := by decide
        rw [e]
        omega, rfl, rfl⟩)
      exact ⟨M', go M' (bMo_kind_58 (fun _ => bMo_kind_74 (go1 M' g1)) (fun q => absurd hf q)), g2⟩
    · obtain ⟨hwb, hlb⟩ := hwv b h2
      have hzb : (aG f T t 0 o b).toInt = zM (upd f (4 + 5 * t + 0) (nI b)) T o := aM_toInt hwb hoP
      have hcmp : (aG f T t 0 o b < aG f T t 0 o i) ↔ ¬ (lg_cmp M2.2 most ≤ 0) := by
        rw [lg_cmp_le, k4, h5, Int32.lt_iff_toInt_lt, hzb, hzi, sum_lt hwb k5 (k6.trans hlb.symm) hoP, Int64.le_iff_toInt_le, zSum_toInt k5 hoP, zSum_toInt hwb hoP]
        omega
      have hf : ¬ found = -4 := by rw [h4]; exact nI_ne4 h2
      by_cases hb : aG f T t 0 o b < aG f T t 0 o i
      · obtain ⟨M', g1, g2⟩ := ih M2 (nI i) (Int64.ofInt (zSum (upd f (4 + 5 * t + 0) (nI i)) T o)) hms2 (Or.inr ⟨i, by omega, hi, by
          rw [aBest, h3, if_pos hb], rfl, rfl⟩)
        exact ⟨M', go M' (bMo_kind_58 (fun q => absurd q hf) (fun _ => bMo_kind_65 (fun q => absurd q (hcmp.mp hb)) (fun _ => bMo_kind_74 (go1 M' g1)))), g2⟩
      · obtain ⟨M', g1, g2⟩ := ih M2 found most hms2 (Or.inr ⟨b, by omega, h2, by
          rw [aBest, h3, if_neg hb], h4, h5⟩)
        refine ⟨M', go M' (bMo_kind_58 (fun q => absurd q hf) (fun _ => bMo_kind_65 (fun q => bMo_kind_78 (bMo_kind_79 (fun _ => bMo_kind_91 (bMo_kind_93 (fun _ => bMo_kind_107 (bMo_kind_108 ?_)) (fun q => absurd rfl q))) (fun q => absurd rfl q))) (fun q => absurd (hcmp.mpr q) hb))), g2⟩
        rw [nI_1]
        exact pm_G_le (ls' := [some (pm_r 29 0), some (pm_i (nI t)), some (pm_l most), none, some (pm_i found), some (pm_i (nI (i + 1))), none]) ⟨Or.inr rfl, Or.inr rfl, Or.inr rfl, Or.inl rfl, Or.inr rfl, Or.inr rfl, Or.inl rfl, trivial⟩ g1
theorem m_buy_bad {M : pm_M} {f : Nat → Int32} {P T : Nat} {a : Int32} (hv : wv f P T) (hw : mw M f P T) (hb : ¬ ∃ t, t < P ∧ a = nI t) : pm_Ev mMo_buy [pm_r 29 0, pm_i a] M (some (pm_i (-1))) M := by
  refine pm_Sem_of (ls := [some (pm_r 29 0), some (pm_i a), none, none, none, none]) ok_mMo_buy (by decide +kernel) rfl (by decide) (Nat.le_of_ble_eq_true rfl) rfl ?_
  exact bMo_buy_0 eMo_isPerson (bMo_buy_5 (fun _ => bMo_buy_8 ⟨rfl, rfl⟩) (fun h1 => absurd (moP_bad hw.2.1 hv.1 hb) h1))
theorem m_buy {M : pm_M} {f : Nat → Int32} {P T p : Nat} (hv : wv f P T) (hw : mw M f P T) (hp : p < P) : ∃ M', pm_Ev mMo_buy [pm_r 29 0, pm_i (nI p)] M (some (pm_i (aBuy f T p T).1)) M' ∧ ms_eq M M' := by
  have hT := hv.2.1
  obtain ⟨M0, j1, j2, j3, j4, -⟩ := m_try (c := none) hv (mw_ms hw ms_tries) hp (tries_25 (a := -4) (b := 0) (M := M)).1 hv rfl rfl
  have hms0 := ms_trans (ms_tries (a := -4) (b := 0) (M := M)) j2
  let Inv : Nat → Int64 → Prop := fun i most => ∃ gb, wv gb P T ∧ aL gb T = aL f T ∧ (aBuy f T p i).2 = aM gb T p ∧ most = Int64.ofInt (zSum gb T p)
  suffices hL : ∃ M', pm_G mMo_buy 34 [some (pm_r 29 0), some (pm_i (nI p)), some (pm_l (Int64.ofInt (zSum f T p))), none, some (pm_i (aBuy f T p 0).1), some (pm_i (nI 0))] [] M0 (pm_D (some (pm_i (aBuy f T p T).1)) M') ∧ ms_eq M M' by
    obtain ⟨M', g1, g2⟩ := hL
    refine ⟨M', ?_, g2⟩
    refine pm_Sem_of (ls := [some (pm_r 29 0), some (pm_i (nI p)), none, none, none, none]) ok_mMo_buy (by decide +kernel) rfl (by decide) (Nat.le_of_ble_eq_true rfl) rfl ?_
    refine bMo_buy_0 eMo_isPerson (bMo_buy_5 (fun q => ?_) (fun _ => bMo_buy_10 eMo_tries (bMo_buy_17 j1 (bMo_buy_22 ?_))))
    · rw [moP_good hw.2.1 hv.1 hp] at q
      exact absurd q (by decide)
    · rw [j4]
      exact g1
  refine pm_upto (N := T) (P := fun i => ∀ M1 most, ms_eq M M1 → Inv i most → ∃ M', pm_G mMo_buy 34 [some (pm_r 29 0), some (pm_i (nI p)), some (pm_l most), none, some (pm_i (aBuy f T p i).1), some (pm_i (nI i))] [] M1 (pm_D (some (pm_i (aBuy f T p T).1)) M') ∧ ms_eq M M') ?_ ?_ 0 (Nat.zero_le _) M0 _ hms0 ⟨f, hv, rfl, rfl, rfl⟩
  · intro M1 most hms hI
    exact ⟨M1, bMo_buy_34 (fun _ => bMo_buy_112 ⟨rfl, rfl⟩) (fun q => absurd (pm_yle (mw_ms hw hms).2.2 (by omega)) q), hms⟩
  · intro i hi ih M1 most hms hI
    have hw1 := mw_ms hw hms
    have hd' := drawn_at hw1 hT hi
    obtain ⟨gb, b1, b2, b3, b4⟩ := hI
    by_cases hd : f (8 + 5 * i) = -4
    · obtain ⟨M2, k1, k2, k3, k4, k5, k6⟩ := m_trait (w := 1) (v := p) hv hw1 hp hi (by omega) (Or.inr (Or.inl ⟨rfl, hp⟩))
      have hms2 := ms_trans hms k2
      have eij : (4 + (5 * nI i)) + 1 = nI (4 + 5 * i + 1) := md_ij (show i < 4 by omega) (show 1 < 4 by omega)
      have hzi : (aG f T i 1 p p).toInt = zM (upd f (4 + 5 * i + 1) (nI p)) T p := aM_toInt k5 hp
      have hcmp : ((aBuy f T p i).2 < aG f T i 1 p p) ↔ ¬ (lg_cmp M2.2 most ≤ 0) := by
        rw [lg_cmp_le, k4, b4, Int32.lt_iff_toInt_lt, b3, aM_toInt b1 hp, hzi, sum_lt b1 k5 (k6.trans b2.symm) hp, Int64.le_iff_toInt_le, zSum_toInt k5 hp, zSum_toInt b1 hp]
        omega
      have go : ∀ M', pm_G mMo_buy 70 [some (pm_r 29 0), some (pm_i (nI p)), some (pm_l most), none, some (pm_i (aBuy f T p i).1), some (pm_i (nI i))] [] M2 (pm_D (some (pm_i (aBuy f T p T).1)) M') → pm_G mMo_buy 34 [some (pm_r 29 0), some (pm_i (nI p)), some (pm_l most), none, some (pm_i (aBuy f T p i).1), some (pm_i (nI i))] [] M1 (pm_D (some (pm_i (aBuy f T p T).1)) M') := by
        intro M' g
        refine bMo_buy_34 (fun q => absurd q (pm_nle hw1.2.2 hi (by omega))) (fun _ => bMo_buy_43 (eMo_isDrawn hd'.2) (bMo_buy_49 (fun _ => bMo_buy_52 eMo_tries ?_) (fun q => ?_)))
        · rw [eij]
          exact bMo_buy_65 k1 g
        · rw [hd'.1, if_pos hd] at q
          exact absurd rfl q
      by_cases hb : (aBuy f T p i).2 < aG f T i 1 p p
      · have e : aBuy f T p (i + 1) = (nI i, aG f T i 1 p p) := by rw [aBuy, if_pos ⟨hd, hb⟩]
        obtain ⟨M', g1, g2⟩ := ih M2 (Int64.ofInt (zSum (upd f (4 + 5 * i + 1) (nI p)) T p)) hms2 ⟨_, k5, k6, by rw [e]; rfl, rfl⟩
        rw [e] at g1
        refine ⟨M', go M' (bMo_buy_70 (fun q => absurd q (hcmp.mp hb)) (fun _ => bMo_buy_79 (bMo_buy_86 (fun q => absurd q (hcmp.mp hb)) (fun _ => bMo_buy_97 (bMo_buy_105 (bMo_buy_106 ?_)))))), g2⟩
        rw [k4, nI_1]
        exact g1
      · have e : aBuy f T p (i + 1) = aBuy f T p i := by rw [aBuy, if_neg (fun q => hb q.2)]
        obtain ⟨M', g1, g2⟩ := ih M2 most hms2 ⟨gb, b1, b2, by rw [e]; exact b3, b4⟩
        rw [e] at g1
        refine ⟨M', go M' (bMo_buy_70 (fun _ => bMo_buy_84 (bMo_buy_86 (fun _ => bMo_buy_104 (bMo_buy_105 (bMo_buy_106 ?_))) (fun q => absurd (hcmp.mpr q) hb))) (fun q => absurd (hcmp.mpr q) hb)), g2⟩
        rw [nI_1]
        exact g1
    · have e : aBuy f T p (i + 1) = aBuy f T p i := by rw [aBuy, if_neg (fun q => hd q.1)]
      obtain ⟨M', g1, g2⟩ := ih M1 most hms ⟨gb, b1, b2, by rw [e]; exact b3, b4⟩
      rw [e] at g1
      refine ⟨M', bMo_buy_34 (fun q => absurd q (pm_nle hw1.2.2 hi (by omega))) (fun _ => bMo_buy_43 (eMo_isDrawn hd'.2) (bMo_buy_49 (fun q => ?_) (fun _ => bMo_buy_106 ?_))), g2⟩
      · rw [hd'.1, if_neg hd] at q
        exact absurd q (by decide)
      · rw [nI_1]
        exact g1
