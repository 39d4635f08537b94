/-! findEnds of the reference -/
def sumZ (g : Nat → Int) : Nat → Int
  | 0 => 0
  | n + 1 => sumZ g n + g n
theorem i64_of (x : Int32) : x.toInt64 = Int64.ofInt x.toInt := by
  rw [← Int32.toInt_toInt64, Int64.ofInt_toInt]
def tr (f : Nat → Int32) (c : Option (Nat × Int32)) : Nat → Int32 := match c with
  | none => f
  | some (j, v) => upd f j v
def tc (M : pm_M) (c : Option (Nat × Int32)) : Prop := match c with
  | none => M.1 29 0 25 = -4
  | some (j, v) => j < 45 ∧ M.1 29 0 25 = nI j ∧ M.1 29 0 26 = v
theorem tc_keep {M M' : pm_M} {c : Option (Nat × Int32)} (h : tc M c) (h25 : M'.1 29 0 25 = M.1 29 0 25) (h26 : M'.1 29 0 26 = M.1 29 0 26) : tc M' c := by
  unfold tc at h ⊢
  rw [h25, h26]
  exact h
theorem nI_ne45 {j : Nat} (h : j < 45) : ¬ nI j = -4 := (by decide +kernel : ∀ z : Fin 45, ¬ nI z.val = -4) ⟨j, h⟩
theorem ev_startsTried {M : pm_M} {c : Option (Nat × Int32)} (h : tc M c) : ∃ g, pm_Ev mMo_startsTried [pm_r 29 0] M none (pm_set M 31 0 g) ∧ ag g (tr (M.1 30 0) c) := by
  have r9 : (gMo_starts M).1 29 0 = M.1 29 0 := pm_set_ne _ _ (by decide)
  cases c with
  | none =>
    refine ⟨fun j => if j < 45 then M.1 30 0 j else M.1 31 0 j, ?_, fun j hj => if_pos hj⟩
    refine pm_Sem_of (ls := [some (pm_r 29 0)]) ok_mMo_startsTried (by decide +kernel) rfl (by decide) (Nat.le_of_ble_eq_true rfl) rfl ?_
    refine bMo_startsTried_0 eMo_starts (bMo_startsTried_4 (fun _ => bMo_startsTried_26 ⟨rfl, rfl⟩) (fun q => absurd ?_ q))
    rw [r9]
    exact h
  | some c =>
    obtain ⟨j, v⟩ := c
    obtain ⟨hj, h25, h26⟩ := h
    refine ⟨upd (fun i => if i < 45 then M.1 30 0 i else M.1 31 0 i) j v, ?_, fun i hi => ?_⟩
    · refine pm_Sem_of (ls := [some (pm_r 29 0)]) ok_mMo_startsTried (by decide +kernel) rfl (by decide) (Nat.le_of_ble_eq_true rfl) rfl ?_
      refine bMo_startsTried_0 eMo_starts (bMo_startsTried_4 (fun q => ?_) (fun _ => bMo_startsTried_13 ?_ (bMo_startsTried_26 ⟨rfl, ?_⟩)))
      · rw [r9, h25] at q
        exact absurd q (nI_ne45 hj)
      · rw [r9, h25]
        exact pm_vin hj (by omega)
      · rw [r9, h25, h26, pm_cl4 (by omega)]
        unfold gMo_starts
        rw [pm_set_set, pm_set_at]
    · show upd _ j v i = upd _ j v i
      unfold upd
      by_cases e : i = j
      · rw [if_pos e, if_pos e]
      · rw [if_neg e, if_neg e]
        exact if_pos hi
def eLo (e : Nat → Int32) : Nat → Int32
  | 0 => 1000000
  | w + 1 => if eLo e w ≤ e w then eLo e w else e w
def eHi (e : Nat → Int32) : Nat → Int32
  | 0 => -1000000
  | w + 1 => if e w ≤ eHi e w then eHi e w else e w
def eFi (e b : Nat → Int32) : Nat → Int32
  | 0 => 0
  | w + 1 => if e w ≤ eHi e w then (if e w = eHi e w then eFi e b w ||| b w else eFi e b w) else b w
/-- how many ways -/
def aW (f : Nat → Int32) (T : Nat) : Nat := md_fact (aL f T).length * md_fact (aL f T).length
def wE (f f' : Nat → Int32) (T p w : Nat) : Int32 := eW f' T p (rA (aL f T).length (w / md_fact (aL f T).length)) (rB (aL f T).length (w / md_fact (aL f T).length) (w % md_fact (aL f T).length))
def wB (f : Nat → Int32) (T w : Nat) : Int32 := if (aL f T).length = 0 then 0 else 1 <<< (nI (wt f T w 0) &&& 31)
theorem aW_le {f : Nat → Int32} {P T : Nat} (hv : wv f P T) : aW f T ≤ 576 ∧ 1 ≤ aW f T := ⟨sq_le (aN hv).2.1, Nat.mul_le_mul (aN hv).2.2 (aN hv).2.2⟩
theorem mf_ways {M : pm_M} {f : Nat → Int32} {P T : Nat} (h : mf M f P T) : fMo_waysMany M = nI (aW f T) := by
  unfold fMo_waysMany aW
  rw [h.2.2.1, pk_mul]
theorem m_orders {M : pm_M} {f : Nat → Int32} {P T : Nat} (hv : wv f P T) (h30 : M.1 30 0 = f) (h3 : M.1 29 0 3 = nI P) (h4 : M.1 29 0 4 = nI T) : ∃ M', pm_Ev mMo_findOrders [pm_r 29 0] M none M' ∧ ms_eq M M' ∧ mf M' f P T ∧ M'.2 = M.2 ∧ M'.1 29 0 25 = M.1 29 0 25 ∧ M'.1 29 0 26 = M.1 29 0 26 := by
  subst h30
  obtain ⟨M', k1, k2, k3, k4, k5, k6, k7, k8, k9⟩ := m_findOrders (n := (aL (M.1 30 0) T).length) hv.2.1 h4 rfl
  refine ⟨M', k1, ⟨fun t k a b => k7 t k a ?_ ?_ ?_, fun j a => k8 j ?_ ?_⟩, ⟨?_, ?_, k2, k3, k4, k5, ?_, k7 30 0 (by decide) (by decide) (by decide) (by decide)⟩, k9, k8 25 (by decide) (by decide), k8 26 (by decide) (by decide)⟩
  · rintro rfl
    exact absurd b (by decide)
  · rintro rfl
    exact absurd b (by decide)
  · rintro rfl
    exact absurd b (by decide)
  · rintro rfl
    exact absurd a (by decide)
  · rintro rfl
    exact absurd a (by decide)
  · rw [k8 3 (by decide) (by decide)]
    exact h3
  · rw [k8 4 (by decide) (by decide)]
    exact h4
  · intro i hi
    exact k6 i (by rw [← hv.2.2.2.2.2.2.1]; exact hi)
theorem lt_of_nle {x y : Int32} (h : ¬ x ≤ y) : y < x := by
  rw [Int32.le_iff_toInt_le] at h
  rw [Int32.lt_iff_toInt_lt]
  omega
theorem m_findEnds {M : pm_M} {f : Nat → Int32} {P T p : Nat} {c : Option (Nat × Int32)} (hv : wv f P T) (h30 : M.1 30 0 = f) (h3 : M.1 29 0 3 = nI P) (h4 : M.1 29 0 4 = nI T) (hp : p < P) (hc : tc M c) (hv' : wv (tr f c) P T) (eL : aL (tr f c) T = aL f T) (eP : aP (tr f c) T = aP f T) : ∃ M', pm_Ev mMo_findEnds [pm_r 29 0, pm_i (nI p)] M none M' ∧ ms_eq M M' ∧ mf M' f P T ∧ M'.2 = Int64.ofInt (sumZ (fun w => (wE f (tr f c) T p w).toInt) (aW f T)) ∧ M'.1 29 0 28 = eLo (wE f (tr f c) T p) (aW f T) ∧ M'.1 29 0 29 = eHi (wE f (tr f c) T p) (aW f T) ∧ M'.1 29 0 30 = eFi (wE f (tr f c) T p) (wB f T) (aW f T) := by
  have hT := hv.2.1
  have hP := hv.1
  obtain ⟨hW, hW1⟩ := aW_le hv
  obtain ⟨hn4, hN24, hN1⟩ := aN hv
  obtain ⟨M1, k1, k2, k3, k4, k5, k6⟩ := m_orders hv h30 h3 h4
  generalize hE : wE f (tr f c) T p = E
  have hwE : ∀ w, wE f (tr f c) T p w = E w := fun w => by rw [hE]
  let R : Nat → pm_M → Prop := fun w M2 => ms_eq M M2 ∧ mf M2 f P T ∧ tc M2 c ∧ M2.2 = Int64.ofInt (sumZ (fun w => (E w).toInt) w) ∧ M2.1 29 0 28 = eLo E w ∧ M2.1 29 0 29 = eHi E w ∧ M2.1 29 0 30 = eFi E (wB f T) w
  suffices hL : ∀ M2, R 0 M2 → ∃ M', pm_G mMo_findEnds 28 [some (pm_r 29 0), some (pm_i (nI p)), some (pm_i (nI 0)), none, none] [] M2 (pm_D none M') ∧ R (aW f T) M' by
    have hR : R 0 (pm_set (pm_set (pm_set (M1.1, 0) 29 0 (upd ((M1.1, (0 : Int64)).1 29 0) 28 1000000)) 29 0 (upd ((pm_set (M1.1, 0) 29 0 (upd ((M1.1, (0 : Int64)).1 29 0) 28 1000000)).1 29 0) 29 (-1000000))) 29 0 (upd ((pm_set (pm_set (M1.1, 0) 29 0 (upd ((M1.1, (0 : Int64)).1 29 0) 28 1000000)) 29 0 (upd ((pm_set (M1.1, 0) 29 0 (upd ((M1.1, (0 : Int64)).1 29 0) 28 1000000)).1 29 0) 29 (-1000000))).1 29 0) 30 0)) := by
      refine ⟨ms_trans k2 (ms_trans ms_two (ms_trans (ms_upd (by decide)) (ms_trans (ms_upd (by decide)) (ms_upd (by decide))))), mf_upd (mf_upd (mf_upd (mf_two k3) (by decide)) (by decide)) (by decide), tc_keep hc ?_ ?_, ?_, ?_, ?_, ?_⟩
      · rw [pm_set_at, pk_un (by decide), pm_set_at, pk_un (by decide), pm_set_at, pk_un (by decide)]
        exact k5
      · rw [pm_set_at, pk_un (by decide), pm_set_at, pk_un (by decide), pm_set_at, pk_un (by decide)]
        exact k6
      · show (0 : Int64) = Int64.ofInt 0
        decide
      · rw [pm_set_at, pk_un (by decide), pm_set_at, pk_un (by decide), pm_set_at, pk_us]
        rfl
      · rw [pm_set_at, pk_un (by decide), pm_set_at, pk_us]
        rfl
      · rw [pm_set_at, pk_us]
        rfl
    obtain ⟨M', g1, g2, g3, g4, g5, g6, g7, g8⟩ := hL _ hR
    refine ⟨M', ?_, g2, g3, g5, g6, g7, g8⟩
    refine pm_Sem_of (ls := [some (pm_r 29 0), some (pm_i (nI p)), none, none, none]) ok_mMo_findEnds (by decide +kernel) rfl (by decide) (Nat.le_of_ble_eq_true rfl) rfl ?_
    exact bMo_findEnds_0 k1 (bMo_findEnds_4 g1)
  refine pm_upto (N := aW f T) (P := fun w => ∀ M2, R w M2 → ∃ M', pm_G mMo_findEnds 28 [some (pm_r 29 0), some (pm_i (nI p)), some (pm_i (nI w)), none, none] [] M2 (pm_D none M') ∧ R (aW f T) M') ?_ ?_ 0 (Nat.zero_le _)
  · intro M2 hR
    refine ⟨M2, ?_, hR⟩
    exact bMo_findEnds_28 eMo_waysMany (bMo_findEnds_33 (fun _ => bMo_findEnds_168 ⟨rfl, rfl⟩) (fun q => absurd (pm_yle (mf_ways hR.2.1) (by omega)) q))
  · intro w hw ih M2 hR
    obtain ⟨q1, q2, q3, q4, q5, q6, q7⟩ := hR
    obtain ⟨g, s1, s2⟩ := ev_startsTried (M := M2) q3
    rw [q2.2.2.2.2.2.2.2] at s2
    have s3 := ev_goesBy hv q2 (wv_tv (ag_wv s2 hv')) hw
    have hval := way_val hv hv' eL eP s2 hw (show p < 4 by omega)
    change _ = wE f (tr f c) T p w at hval
    rw [hwE] at hval
    generalize md_go T (wt f T w) (wz f T w) g (aL f T).length = G at s3 hval
    have r9 : (pm_set M2 31 0 G).1 29 0 = M2.1 29 0 := pm_set_ne _ _ (by decide)
    have hmf3 : mf (pm_set M2 31 0 G) f P T := mf_set q2 (by decide)
    have hms3 : ms_eq M (pm_set M2 31 0 G) := ms_trans q1 (ms_set (by decide) (by decide))
    have htc3 : tc (pm_set M2 31 0 G) c := tc_keep q3 (by rw [r9]) (by rw [r9])
    have h28 : (pm_set M2 31 0 G).1 29 0 28 = eLo E w := by rw [r9, q5]
    have h29 : (pm_set M2 31 0 G).1 29 0 29 = eHi E w := by rw [r9, q6]
    have h30' : (pm_set M2 31 0 G).1 29 0 30 = eFi E (wB f T) w := by rw [r9, q7]
    have hv2 : (pm_set M2 31 0 G).2 = Int64.ofInt (sumZ (fun w => (E w).toInt) w) := q4
    have hG : (pm_set M2 31 0 G).1 31 0 (nI p).toNatClampNeg = E w := by rw [pm_cl4 (by omega), pm_set_at, hval]
    suffices h70 : ∃ M', pm_G mMo_findEnds 70 [some (pm_r 29 0), some (pm_i (nI p)), some (pm_i (nI w)), some (pm_i (E w)), none] [pm_i (wB f T w)] (pm_set M2 31 0 G) (pm_D none M') ∧ R (aW f T) M' by
      obtain ⟨M', g1, g2⟩ := h70
      refine ⟨M', ?_, g2⟩
      refine bMo_findEnds_28 eMo_waysMany (bMo_findEnds_33 (fun q => absurd q (pm_nle (mf_ways q2) hw (by omega))) (fun _ => bMo_findEnds_36 s1 (bMo_findEnds_40 s3 (bMo_findEnds_45 (pm_vin (by omega) (by omega)) (fun q => bMo_findEnds_59 ?_) (fun q => ?_)))))
      · rw [hG]
        rw [hmf3.2.2.2.1] at q
        have e : (aL f T).length = 0 := (pm_eq4 (by omega) (by omega)).mp q
        unfold wB at g1
        rw [if_pos e] at g1
        exact g1
      · rw [hG]
        rw [hmf3.2.2.2.1] at q
        have e : ¬ (aL f T).length = 0 := fun e => q (by rw [e]; decide)
        have d1 := (w_dm hN1 hw).1
        have e1 : nI w / nI (md_fact (aL f T).length) = nI (w / md_fact (aL f T).length) := pk_div (by omega) hN1 (by omega)
        have i1 := md_ix (o := w / md_fact (aL f T).length) (i := 0) (by omega) (by omega)
        rw [show 4 * nI (w / md_fact (aL f T).length) + nI 0 = 4 * nI (w / md_fact (aL f T).length) from Int32.add_zero _] at i1
        have o1 := hmf3.2.2.2.2.1 _ 0 d1 (by omega)
        have l1 := OR_lt hn4 d1 (show 0 < (aL f T).length by omega)
        have hft : fMo_firstTicket (nI w) (pm_set M2 31 0 G) = nI (wt f T w 0) := by
          unfold fMo_firstTicket
          rw [hmf3.2.2.1, e1, i1.1, o1, pm_cl4 (by omega)]
          exact hmf3.2.2.2.2.2.1 _ l1
        have hfs : sMo_firstTicket (nI w) (pm_set M2 31 0 G) := by
          unfold sMo_firstTicket
          rw [hmf3.2.2.1, e1, i1.1, o1]
          exact ⟨nI_ne0 hN1 (by omega), i1.2, pm_vin (by omega) (by omega)⟩
        refine bMo_findEnds_63 (eMo_firstTicket hfs) (bMo_findEnds_69 ?_)
        rw [hft]
        unfold wB at g1
        rw [if_neg e] at g1
        exact g1
    generalize pm_set M2 31 0 G = M3 at hmf3 hms3 htc3 h28 h29 h30' hv2
    -- at 108
    suffices h108 : ∃ M', pm_G mMo_findEnds 108 [some (pm_r 29 0), some (pm_i (nI p)), some (pm_i (nI w)), some (pm_i (E w)), some (pm_i (wB f T w))] [pm_i (eFi E (wB f T) (w + 1)), pm_r 29 0] M3 (pm_D none M') ∧ R (aW f T) M' by
      obtain ⟨M', g1, g2⟩ := h108
      refine ⟨M', ?_, g2⟩
      rw [eFi] at g1
      refine bMo_findEnds_70 (fun q => ?_) (fun q => bMo_findEnds_81 ?_)
      · rw [h29] at q
        rw [if_pos q] at g1
        refine bMo_findEnds_86 (fun q2 => bMo_findEnds_94 ?_) (fun q2 => bMo_findEnds_104 ?_)
        · rw [h29] at q2
          rw [if_pos q2] at g1
          rw [h30']
          exact g1
        · rw [h29] at q2
          rw [if_neg q2] at g1
          rw [h30']
          exact g1
      · rw [h29] at q
        rw [if_neg q] at g1
        exact g1
    generalize hx : eFi E (wB f T) (w + 1) = x
    have a29 : (pm_set M3 29 0 (upd (M3.1 29 0) 30 x)).1 29 0 29 = eHi E w := by rw [pm_set_at, pk_un (by decide), h29]
    suffices h128 : ∃ M', pm_G mMo_findEnds 128 [some (pm_r 29 0), some (pm_i (nI p)), some (pm_i (nI w)), some (pm_i (E w)), some (pm_i (wB f T w))] [pm_i (eHi E (w + 1)), pm_r 29 0] (pm_set M3 29 0 (upd (M3.1 29 0) 30 x)) (pm_D none M') ∧ R (aW f T) M' by
      obtain ⟨M', g1, g2⟩ := h128
      refine ⟨M', ?_, g2⟩
      rw [eHi] at g1
      refine bMo_findEnds_108 (fun q => bMo_findEnds_124 ?_) (fun q => bMo_findEnds_120 ?_)
      · rw [a29] at q
        rw [if_pos q] at g1
        rw [a29]
        exact g1
      · rw [a29] at q
        rw [if_neg q] at g1
        exact g1
    have hmf4 : mf (pm_set M3 29 0 (upd (M3.1 29 0) 30 x)) f P T := mf_upd hmf3 (by decide)
    have hms4 : ms_eq M (pm_set M3 29 0 (upd (M3.1 29 0) 30 x)) := ms_trans hms3 (ms_upd (by decide))
    have htc4 : tc (pm_set M3 29 0 (upd (M3.1 29 0) 30 x)) c := tc_keep htc3 (by rw [pm_set_at, pk_un (by decide)]) (by rw [pm_set_at, pk_un (by decide)])
    have b28 : (pm_set M3 29 0 (upd (M3.1 29 0) 30 x)).1 29 0 28 = eLo E w := by rw [pm_set_at, pk_un (by decide), h28]
    have b30 : (pm_set M3 29 0 (upd (M3.1 29 0) 30 x)).1 29 0 30 = x := by rw [pm_set_at, pk_us]
    have b2 : (pm_set M3 29 0 (upd (M3.1 29 0) 30 x)).2 = Int64.ofInt (sumZ (fun w => (E w).toInt) w) := hv2
    generalize pm_set M3 29 0 (upd (M3.1 29 0) 30 x) = M4 at hmf4 hms4 htc4 b28 b30 b2 ⊢
    generalize hy : eHi E (w + 1) = y
    have c28 : (pm_set M4 29 0 (upd (M4.1 29 0) 29 y)).1 29 0 28 = eLo E w := by rw [pm_set_at, pk_un (by decide), b28]
    suffices h148 : ∃ M', pm_G mMo_findEnds 148 [some (pm_r 29 0), some (pm_i (nI p)), some (pm_i (nI w)), some (pm_i (E w)), some (pm_i (wB f T w))] [pm_i (eLo E (w + 1)), pm_r 29 0] (pm_set M4 29 0 (upd (M4.1 29 0) 29 y)) (pm_D none M') ∧ R (aW f T) M' by
      obtain ⟨M', g1, g2⟩ := h148
      refine ⟨M', ?_, g2⟩
      rw [eLo] at g1
      refine bMo_findEnds_128 (fun q => bMo_findEnds_144 ?_) (fun q => bMo_findEnds_140 ?_)
      · rw [c28] at q
        rw [if_pos q] at g1
        rw [c28]
        exact g1
      · rw [c28] at q
        rw [if_neg q] at g1
        exact g1
    have hmf5 : mf (pm_set M4 29 0 (upd (M4.1 29 0) 29 y)) f P T := mf_upd hmf4 (by decide)
    have hms5 : ms_eq M (pm_set M4 29 0 (upd (M4.1 29 0) 29 y)) := ms_trans hms4 (ms_upd (by decide))
    have htc5 : tc (pm_set M4 29 0 (upd (M4.1 29 0) 29 y)) c := tc_keep htc4 (by rw [pm_set_at, pk_un (by decide)]) (by rw [pm_set_at, pk_un (by decide)])
    have c29 : (pm_set M4 29 0 (upd (M4.1 29 0) 29 y)).1 29 0 29 = y := by rw [pm_set_at, pk_us]
    have c30 : (pm_set M4 29 0 (upd (M4.1 29 0) 29 y)).1 29 0 30 = x := by rw [pm_set_at, pk_un (by decide), b30]
    have c2 : (pm_set M4 29 0 (upd (M4.1 29 0) 29 y)).2 = Int64.ofInt (sumZ (fun w => (E w).toInt) w) := b2
    generalize pm_set M4 29 0 (upd (M4.1 29 0) 29 y) = M5 at hmf5 hms5 htc5 c28 c29 c30 c2 ⊢
    obtain ⟨M', g1, g2⟩ := ih ((pm_set M5 29 0 (upd (M5.1 29 0) 28 (eLo E (w + 1)))).1, (pm_set M5 29 0 (upd (M5.1 29 0) 28 (eLo E (w + 1)))).2 + (E w).toInt64) (by
      refine ⟨ms_trans hms5 (ms_trans (ms_upd (by decide)) ms_two), mf_two (mf_upd hmf5 (by decide)), tc_keep htc5 ?_ ?_, ?_, ?_, ?_, ?_⟩
      · dsimp only
        rw [pm_set_at, pk_un (by decide)]
      · dsimp only
        rw [pm_set_at, pk_un (by decide)]
      · dsimp only
        rw [show (pm_set M5 29 0 (upd (M5.1 29 0) 28 (eLo E (w + 1)))).2 = M5.2 from rfl, c2, i64_of, ← Int64.ofInt_add]
        rfl
      · dsimp only
        rw [pm_set_at, pk_us]
      · dsimp only
        rw [pm_set_at, pk_un (by decide), c29, hy]
      · dsimp only
        rw [pm_set_at, pk_un (by decide), c30, hx])
    refine ⟨M', bMo_findEnds_148 ?_, g2⟩
    rw [nI_1]
    exact pm_G_le (ls' := [some (pm_r 29 0), some (pm_i (nI p)), some (pm_i (nI (w + 1))), none, none]) ⟨Or.inr rfl, Or.inr rfl, Or.inr rfl, Or.inl rfl, Or.inl rfl, trivial⟩ g1
