/-! the reference: luck, solid -/
theorem lN_oI (n : Nat) : lN n = Int64.ofInt n := (Int64.ofInt_eq_ofNat).symm
theorem cnt_rows {c : Nat → Nat → Bool} {n : Nat} (hn : n ≤ 4) : pm_cnt1 (fun w => c (rA n (w / md_fact n)) (rB n (w / md_fact n) (w % md_fact n))) (md_fact n * md_fact n) = aCnt c (md_fact n) := by
  unfold aCnt
  rw [cnt_sum, sum_rows (h := fun o q => if c o q = true then 1 else 0) hn]
  exact pm_sumN_congr (fun o _ => (cnt_sum _ _).symm)
theorem same_told {A D : Nat} {w : Int32} {M : pm_M} (hA : A < 2 ^ 30) (h0 : 0 < D) (hD : D < 65536) : aPart (nI A) (nI D) w = fMo_told (lN A) (lN D) w M ∧ sMo_told (lN A) (lN D) w M := by
  rw [nI_oI A, lN_oI A]
  exact ⟨part_told (A := A) (C := A) (B := D) (D := D) (by omega) h0 hD (by omega) h0 hD rfl, (told_val (by omega) h0 hD).2⟩
/-- a way of the reference, from what is -/
theorem m_way {M : pm_M} {f : Nat → Int32} {P T w : Nat} (hv : wv f P T) (h : mf M f P T) (hw : w < aW f T) : ∃ g G, pm_Ev mMo_starts [pm_r 29 0] M none (pm_set M 31 0 g) ∧ pm_Ev mMo_goesBy [pm_r 29 0, pm_i (nI w)] (pm_set M 31 0 g) none (pm_set M 31 0 G) ∧ ag g f ∧ G = md_go T (wt f T w) (wz f T w) g (aL f T).length ∧ ∀ p, p < 4 → G p = wE f f T p w := by
  have hg : ag (fun j => if j < 45 then M.1 30 0 j else M.1 31 0 j) f := fun j hj => by rw [← h.2.2.2.2.2.2.2]; exact if_pos hj
  refine ⟨_, _, eMo_starts, ev_goesBy hv h (wv_tv (ag_wv hg hv)) hw, hg, rfl, fun p hp => ?_⟩
  exact way_val hv hv rfl rfl hg hw hp
theorem luck_iff {f : Nat → Int32} {P T p o q : Nat} {v : Int32} (hv : wv f P T) (hp : p < P) (ho : o < md_fact (aL f T).length) (hq : q < md_fact (aL f T).length) (h1 : -999 ≤ v.toInt) (h2 : v.toInt ≤ 999) : decide (v - f p ≤ aA f T (nI p) o + aB f T (nI p) q) = decide (v ≤ eW f T p o q) := by
  have b1 := purse_bd hv hp
  have b2 := zA_bd (p := p) hv ho
  have b3 := zB_bd (p := p) hv hq
  have e : (v - f p ≤ aA f T (nI p) o + aB f T (nI p) q) ↔ v ≤ eW f T p o q := by
    rw [Int32.le_iff_toInt_le, Int32.le_iff_toInt_le, eW_toInt hv hp ho hq, Int32.toInt_sub, Int32.toInt_add, aA_toInt hv ho, aB_toInt hv hq, Int.bmod_eq_of_le (by omega) (by omega), Int.bmod_eq_of_le (by omega) (by omega)]
    unfold zE
    omega
  exact decide_eq_decide.mpr e
theorem m_luck_bad {M : pm_M} {f : Nat → Int32} {P T : Nat} {a v w : Int32} (hv : wv f P T) (hw : mw M f P T) (hb : (¬ ∃ t, t < P ∧ a = nI t) ∨ fWt_isEnd v M = 0 ∨ fWt_isPart w M = 0) : pm_Ev mMo_luck [pm_r 29 0, pm_i a, pm_i v, pm_i w] M (some (pm_l (-1))) M := by
  refine pm_Sem_of (ls := [some (pm_r 29 0), some (pm_i a), some (pm_i v), some (pm_i w), none, none, none]) ok_mMo_luck (by decide +kernel) rfl (by decide) (Nat.le_of_ble_eq_true rfl) rfl ?_
  refine bMo_luck_0 eMo_isPerson (bMo_luck_5 (fun _ => bMo_luck_29 ⟨rfl, rfl⟩) (fun h1 => bMo_luck_8 eMo_in (bMo_luck_19 (fun _ => bMo_luck_29 ⟨rfl, rfl⟩) (fun h2 => bMo_luck_22 eMo_isPart (bMo_luck_26 (fun _ => bMo_luck_29 ⟨rfl, rfl⟩) (fun h3 => ?_))))))
  rcases hb with hb | hb | hb
  · exact absurd (moP_bad hw.2.1 hv.1 hb) h1
  · exact absurd ((mo_end v M M).trans hb) h2
  · rw [mo_isPart w M M] at h3
    exact absurd hb h3
theorem m_luck {M : pm_M} {f : Nat → Int32} {P T p : Nat} {v w : Int32} (hv : wv f P T) (hw : mw M f P T) (hp : p < P) (he : ¬ fWt_isEnd v M = 0) (hb : ¬ fWt_isPart w M = 0) : ∃ M', pm_Ev mMo_luck [pm_r 29 0, pm_i (nI p), pm_i v, pm_i w] M (some (pm_l (aPart (nI (aCnt (fun o q => decide (v - f p ≤ aA f T (nI p) o + aB f T (nI p) q)) (md_fact (aL f T).length))) (nI (md_fact (aL f T).length * md_fact (aL f T).length)) w))) M' ∧ ms_eq M M' := by
  obtain ⟨hW, hW1⟩ := aW_le hv
  have hP := hv.1
  obtain ⟨hn4, hN24, hN1⟩ := aN hv
  obtain ⟨vb1, vb2⟩ := end_bd he
  obtain ⟨M1, k1, k2, k3, -⟩ := m_orders hv hw.1 hw.2.1 hw.2.2
  have ecnt : aCnt (fun o q => decide (v - f p ≤ aA f T (nI p) o + aB f T (nI p) q)) (md_fact (aL f T).length) = pm_cnt1 (fun x => decide (v ≤ wE f f T p x)) (aW f T) := by
    unfold wE aW
    rw [cnt_rows (c := fun o q => decide (v ≤ eW f T p o q)) hn4]
    unfold aCnt
    exact pm_sumN_congr (fun o ho => pm_cnt1_congr (fun q hq => luck_iff hv hp ho hq vb1 vb2))
  rw [ecnt]
  generalize hc : (fun x => decide (v ≤ wE f f T p x)) = c
  have hle := pm_cnt1_le c (aW f T)
  suffices hL : ∃ M', pm_G mMo_luck 43 [some (pm_r 29 0), some (pm_i (nI p)), some (pm_i v), some (pm_i w), some (pm_l (lN (pm_cnt1 c 0))), none, some (pm_i (nI 0))] [] M1 (pm_D (some (pm_l (aPart (nI (pm_cnt1 c (aW f T))) (nI (aW f T)) w))) M') ∧ ms_eq M M' by
    obtain ⟨M', g1, g2⟩ := hL
    refine ⟨M', ?_, g2⟩
    refine pm_Sem_of (ls := [some (pm_r 29 0), some (pm_i (nI p)), some (pm_i v), some (pm_i w), none, none, none]) ok_mMo_luck (by decide +kernel) rfl (by decide) (Nat.le_of_ble_eq_true rfl) rfl ?_
    refine bMo_luck_0 eMo_isPerson (bMo_luck_5 (fun q => ?_) (fun _ => bMo_luck_8 eMo_in (bMo_luck_19 (fun q => absurd ((mo_end v M M).symm.trans q) he) (fun _ => bMo_luck_22 eMo_isPart (bMo_luck_26 (fun q => ?_) (fun _ => bMo_luck_33 k1 (bMo_luck_37 g1)))))))
    · rw [moP_good hw.2.1 hP hp] at q
      exact absurd q (by decide)
    · rw [mo_isPart w M M] at q
      exact absurd q hb
  refine pm_upto (N := aW f T) (P := fun x => ∀ M2, ms_eq M M2 → mf M2 f P T → ∃ M', pm_G mMo_luck 43 [some (pm_r 29 0), some (pm_i (nI p)), some (pm_i v), some (pm_i w), some (pm_l (lN (pm_cnt1 c x))), none, some (pm_i (nI x))] [] M2 (pm_D (some (pm_l (aPart (nI (pm_cnt1 c (aW f T))) (nI (aW f T)) w))) M') ∧ ms_eq M M') ?_ ?_ 0 (Nat.zero_le _) M1 k2 k3
  · intro M2 hms hm
    obtain ⟨t1, t2⟩ := same_told (w := w) (M := M2) (A := pm_cnt1 c (aW f T)) (D := aW f T) (by omega) (by omega) (by omega)
    refine ⟨M2, ?_, hms⟩
    rw [t1]
    refine bMo_luck_43 eMo_waysMany (bMo_luck_49 (fun _ => bMo_luck_88 eMo_waysMany (bMo_luck_94 ?_ (bMo_luck_99 ⟨rfl, rfl⟩))) (fun q => absurd (pm_yle (mf_ways hm) (by omega)) q))
    rw [mf_ways hm, nI_l (by omega)]
    exact eMo_told t2
  · intro x hx ih M2 hms hm
    obtain ⟨g, G, s1, s2, s3, s4, s5⟩ := m_way hv hm hx
    have hG : (pm_set M2 31 0 G).1 31 0 (nI p).toNatClampNeg = wE f f T p x := by rw [pm_cl4 (by omega), pm_set_at, s5 p (by omega)]
    obtain ⟨M', g1, g2⟩ := ih (pm_set M2 31 0 G) (ms_trans hms (ms_set (by decide) (by decide))) (mf_set hm (by decide))
    refine ⟨M', ?_, g2⟩
    rw [pm_cnt1] at g1
    refine bMo_luck_43 eMo_waysMany (bMo_luck_49 (fun q => absurd q (pm_nle (mf_ways hm) hx (by omega))) (fun _ => bMo_luck_52 s1 (bMo_luck_56 s2 (bMo_luck_62 (pm_vin (by omega) (by omega)) (fun q => bMo_luck_78 (bMo_luck_79 ?_)) (fun q => bMo_luck_74 (bMo_luck_79 ?_))))))
    · rw [hG] at q
      have hcf : ¬ c x = true := by
        rw [← hc]
        simp only [decide_eq_true_eq]
        intro q2
        rw [Int32.lt_iff_toInt_lt] at q
        rw [Int32.le_iff_toInt_le] at q2
        omega
      rw [if_neg hcf, Nat.add_zero] at g1
      rw [nI_1, Int64.add_zero]
      exact g1
    · rw [hG] at q
      have hct : c x = true := by
        rw [← hc]
        simp only [decide_eq_true_eq]
        rw [Int32.lt_iff_toInt_lt] at q
        rw [Int32.le_iff_toInt_le]
        omega
      rw [if_pos hct] at g1
      rw [nI_1, lN_1]
      exact g1
theorem m_solid_bad {M : pm_M} {w : Int32} (hb : fWt_isPart w M = 0) : pm_Ev mMo_solid [pm_r 29 0, pm_i w] M (some (pm_l (-1))) M := by
  refine pm_Sem_of (ls := [some (pm_r 29 0), some (pm_i w), none, none, none, none, none]) ok_mMo_solid (by decide +kernel) rfl (by decide) (Nat.le_of_ble_eq_true rfl) rfl ?_
  refine bMo_solid_0 eMo_isPart (bMo_solid_4 (fun _ => bMo_solid_7 ⟨rfl, rfl⟩) (fun h => ?_))
  rw [mo_isPart w M M] at h
  exact absurd hb h
theorem m_solid {M : pm_M} {f : Nat → Int32} {P T : Nat} {w : Int32} (hv : wv f P T) (hw : mw M f P T) (hb : ¬ fWt_isPart w M = 0) : ∃ M', pm_Ev mMo_solid [pm_r 29 0, pm_i w] M (some (pm_l (aPart (nI (aCnt (aSol f P T) (md_fact (aL f T).length))) (nI (md_fact (aL f T).length * md_fact (aL f T).length)) w))) M' ∧ ms_eq M M' := by
  obtain ⟨hW, hW1⟩ := aW_le hv
  have hP := hv.1
  obtain ⟨hn4, hN24, hN1⟩ := aN hv
  obtain ⟨M1, k1, k2, k3, -⟩ := m_orders hv hw.1 hw.2.1 hw.2.2
  have ecnt : aCnt (aSol f P T) (md_fact (aL f T).length) = pm_cnt1 (fun x => pm_alln (fun p => decide (0 ≤ wE f f T p x)) P) (aW f T) := by
    unfold wE aW
    rw [cnt_rows (c := fun o q => pm_alln (fun p => decide (0 ≤ eW f T p o q)) P) hn4]
    rfl
  rw [ecnt]
  generalize hc : (fun x => pm_alln (fun p => decide (0 ≤ wE f f T p x)) P) = c
  have hle := pm_cnt1_le c (aW f T)
  suffices hL : ∃ M', pm_G mMo_solid 20 [some (pm_r 29 0), some (pm_i w), some (pm_l (lN (pm_cnt1 c 0))), none, some (pm_i (nI 0)), none, none] [] M1 (pm_D (some (pm_l (aPart (nI (pm_cnt1 c (aW f T))) (nI (aW f T)) w))) M') ∧ ms_eq M M' by
    obtain ⟨M', g1, g2⟩ := hL
    refine ⟨M', ?_, g2⟩
    refine pm_Sem_of (ls := [some (pm_r 29 0), some (pm_i w), none, none, none, none, none]) ok_mMo_solid (by decide +kernel) rfl (by decide) (Nat.le_of_ble_eq_true rfl) rfl ?_
    refine bMo_solid_0 eMo_isPart (bMo_solid_4 (fun q => ?_) (fun _ => bMo_solid_11 k1 (bMo_solid_15 g1)))
    rw [mo_isPart w M M] at q
    exact absurd q hb
  refine pm_upto (N := aW f T) (P := fun x => ∀ M2, ms_eq M M2 → mf M2 f P T → ∃ M', pm_G mMo_solid 20 [some (pm_r 29 0), some (pm_i w), some (pm_l (lN (pm_cnt1 c x))), none, some (pm_i (nI x)), none, none] [] M2 (pm_D (some (pm_l (aPart (nI (pm_cnt1 c (aW f T))) (nI (aW f T)) w))) M') ∧ ms_eq M M') ?_ ?_ 0 (Nat.zero_le _) M1 k2 k3
  · intro M2 hms hm
    obtain ⟨t1, t2⟩ := same_told (w := w) (M := M2) (A := pm_cnt1 c (aW f T)) (D := aW f T) (by omega) (by omega) (by omega)
    refine ⟨M2, ?_, hms⟩
    rw [t1]
    refine bMo_solid_20 eMo_waysMany (bMo_solid_26 (fun _ => bMo_solid_101 eMo_waysMany (bMo_solid_106 ?_ (bMo_solid_111 ⟨rfl, rfl⟩))) (fun q => absurd (pm_yle (mf_ways hm) (by omega)) q))
    rw [mf_ways hm, nI_l (by omega)]
    exact eMo_told t2
  · intro x hx ih M2 hms hm
    obtain ⟨g, G, s1, s2, s3, s4, s5⟩ := m_way hv hm hx
    obtain ⟨M', g1, g2⟩ := ih (pm_set M2 31 0 G) (ms_trans hms (ms_set (by decide) (by decide))) (mf_set hm (by decide))
    refine ⟨M', ?_, g2⟩
    rw [pm_cnt1] at g1
    refine bMo_solid_20 eMo_waysMany (bMo_solid_26 (fun q => absurd q (pm_nle (mf_ways hm) hx (by omega))) (fun _ => bMo_solid_29 s1 (bMo_solid_33 s2 (bMo_solid_39 ?_))))
    have hP3 : (pm_set M2 31 0 G).1 29 0 3 = nI P := (mf_set (g := G) hm (by decide : (31 : Nat) ≠ 29 ∧ 31 ≠ 30 ∧ 31 ≠ 36 ∧ 31 ≠ 37 ∧ 31 ≠ 38)).1
    have hGp : ∀ p, p < 4 → (pm_set M2 31 0 G).1 31 0 (nI p).toNatClampNeg = wE f f T p x := fun p hp => by rw [pm_cl4 (by omega), pm_set_at, s5 p hp]
    generalize pm_set M2 31 0 G = M3 at g1 hP3 hGp ⊢
    refine pm_upto (N := P) (P := fun p => pm_G mMo_solid 45 [some (pm_r 29 0), some (pm_i w), some (pm_l (lN (pm_cnt1 c x))), none, some (pm_i (nI x)), some (pm_i (if pm_alln (fun p => decide (0 ≤ wE f f T p x)) p = true then 1 else 0)), some (pm_i (nI p))] [] M3 (pm_D (some (pm_l (aPart (nI (pm_cnt1 c (aW f T))) (nI (aW f T)) w))) M')) ?_ ?_ 0 (Nat.zero_le _)
    · refine bMo_solid_45 (fun _ => ?_) (fun q => absurd (pm_yle hP3 (by omega)) q)
      have ecx : c x = pm_alln (fun p => decide (0 ≤ wE f f T p x)) P := by rw [← hc]
      by_cases hcx : c x = true
      · rw [if_pos hcx, ← lN_1] at g1
        rw [ecx] at hcx
        rw [if_pos hcx]
        refine bMo_solid_82 (fun q => absurd q (by decide)) (fun _ => bMo_solid_88 (bMo_solid_93 ?_))
        rw [nI_1]
        exact pm_G_le (ls' := [some (pm_r 29 0), some (pm_i w), some (pm_l (lN (pm_cnt1 c x) + 1)), none, some (pm_i (nI (x + 1))), none, none]) ⟨Or.inr rfl, Or.inr rfl, Or.inr rfl, Or.inl rfl, Or.inr rfl, Or.inl rfl, Or.inl rfl, trivial⟩ g1
      · rw [if_neg hcx, Nat.add_zero] at g1
        rw [ecx] at hcx
        rw [if_neg hcx]
        refine bMo_solid_82 (fun _ => bMo_solid_92 (bMo_solid_93 ?_)) (fun q => absurd rfl q)
        rw [nI_1, Int64.add_zero]
        exact pm_G_le (ls' := [some (pm_r 29 0), some (pm_i w), some (pm_l (lN (pm_cnt1 c x))), none, some (pm_i (nI (x + 1))), none, none]) ⟨Or.inr rfl, Or.inr rfl, Or.inr rfl, Or.inl rfl, Or.inr rfl, Or.inl rfl, Or.inl rfl, trivial⟩ g1
    · intro p hp kp
      rw [pm_alln, ← nI_1] at kp
      refine bMo_solid_45 (fun q => absurd q (pm_nle hP3 hp (by omega))) (fun _ => ?_)
      by_cases ha : pm_alln (fun p => decide (0 ≤ wE f f T p x)) p = true
      · rw [ha, Bool.true_and] at kp
        rw [if_pos ha]
        refine bMo_solid_54 (fun q => absurd q (by decide)) (fun _ => bMo_solid_59 (pm_vin (by omega) (by omega)) (fun q => bMo_solid_73 (bMo_solid_74 ?_)) (fun q => bMo_solid_69 (bMo_solid_74 ?_)))
        · rw [hGp p (by omega)] at q
          rw [if_neg] at kp
          · exact kp
          · simp only [decide_eq_true_eq]
            intro q2
            rw [Int32.lt_iff_toInt_lt] at q
            rw [Int32.le_iff_toInt_le] at q2
            omega
        · rw [hGp p (by omega)] at q
          rw [if_pos] at kp
          · exact kp
          · simp only [decide_eq_true_eq]
            rw [Int32.lt_iff_toInt_lt] at q
            rw [Int32.le_iff_toInt_le]
            omega
      · have ha2 : pm_alln (fun p => decide (0 ≤ wE f f T p x)) p = false := by simpa using ha
        rw [ha2, Bool.false_and, if_neg (by decide)] at kp
        rw [if_neg ha]
        exact bMo_solid_54 (fun _ => bMo_solid_73 (bMo_solid_74 kp)) (fun q => absurd rfl q)
