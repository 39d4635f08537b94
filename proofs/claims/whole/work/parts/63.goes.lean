/-! the reference goes its ways -/
def ms_t (t : Nat) : Bool := decide (t = 31) || (decide (36 ≤ t) && decide (t ≤ 39)) || decide (t = 43)
def ms_j (j : Nat) : Bool := decide (j = 21) || decide (j = 22) || decide (j = 25) || decide (j = 26) || decide (j = 28) || decide (j = 29) || decide (j = 30)
/-- the reference's scratch cells alone have changed -/
def ms_eq (M M' : pm_M) : Prop := (∀ t k, t ≠ 29 → ms_t t = false → M'.1 t k = M.1 t k) ∧ ∀ j, ms_j j = false → M'.1 29 0 j = M.1 29 0 j
theorem ms_rfl {M : pm_M} : ms_eq M M := ⟨fun _ _ _ _ => rfl, fun _ _ => rfl⟩
theorem ms_trans {M M' M'' : pm_M} (h : ms_eq M M') (h' : ms_eq M' M'') : ms_eq M M'' := ⟨fun t k a b => (h'.1 t k a b).trans (h.1 t k a b), fun j a => (h'.2 j a).trans (h.2 j a)⟩
theorem ms_set {M : pm_M} {t k : Nat} {f : Nat → Int32} (h9 : t ≠ 29) (h : ms_t t = true) : ms_eq M (pm_set M t k f) := by
  refine ⟨fun a b _ q => ?_, fun j _ => by rw [pm_set_ne _ _ h9]⟩
  unfold pm_set
  dsimp only
  rw [if_neg]
  rintro ⟨rfl, rfl⟩
  rw [h] at q
  cases q
theorem ms_upd {M : pm_M} {j : Nat} {x : Int32} (h : ms_j j = true) : ms_eq M (pm_set M 29 0 (upd (M.1 29 0) j x)) := by
  refine ⟨fun a b q _ => by rw [pm_set_ne _ _ (Ne.symm q)], fun i q => ?_⟩
  rw [pm_set_at]
  unfold upd
  rw [if_neg]
  rintro rfl
  rw [h] at q
  cases q
theorem ms_two {M : pm_M} {x : Int64} : ms_eq M (M.1, x) := ⟨fun _ _ _ _ => rfl, fun _ _ => rfl⟩
theorem ms_starts {M : pm_M} : ms_eq M (gMo_starts M) := ms_set (by decide) (by decide)
theorem ms_left {M : pm_M} : ms_eq M (gMo_findLeft M) := by
  unfold gMo_findLeft md_fl
  generalize md_lst (fun t => decide (M.1 30 0 (8 + 5 * t) = -4)) (M.1 29 0 4).toNatClampNeg = l
  generalize md_lst (fun t => decide (M.1 30 0 (28 + t) = -4)) (M.1 29 0 4).toNatClampNeg = lp
  have h1 : ms_eq M (pm_set M 37 0 (md_arr l (M.1 37 0))) := ms_set (by decide) (by decide)
  have h2 : ms_eq (pm_set M 37 0 (md_arr l (M.1 37 0))) (pm_set (pm_set M 37 0 (md_arr l (M.1 37 0))) 38 0 (md_arr lp (M.1 38 0))) := ms_set (by decide) (by decide)
  have h3 := ms_upd (M := pm_set (pm_set M 37 0 (md_arr l (M.1 37 0))) 38 0 (md_arr lp (M.1 38 0))) (j := 22) (x := nI l.length) (by decide)
  rw [pm_set_ne (pm_set M 37 0 (md_arr l (M.1 37 0))) _ (show (38 : Nat) ≠ 29 by decide), pm_set_ne M _ (show (37 : Nat) ≠ 29 by decide)] at h3
  exact ms_trans h1 (ms_trans h2 h3)
/-- rows that are alike where they count -/
def ag (g f : Nat → Int32) : Prop := ∀ j, j < 45 → g j = f j
theorem ag_L {g f : Nat → Int32} {T : Nat} (h : ag g f) (hT : T ≤ 4) : aL g T = aL f T ∧ aP g T = aP f T := ⟨md_lst_congr (fun i hi => by rw [h _ (by omega)]), md_lst_congr (fun i hi => by rw [h _ (by omega)])⟩
theorem ag_wv {g f : Nat → Int32} {P T : Nat} (h : ag g f) (hv : wv f P T) : wv g P T := by
  obtain ⟨h1, h2, h3, h4, h5, h6, h7, ⟨s, h8, h9, h10⟩, h11⟩ := hv
  obtain ⟨e1, e2⟩ := ag_L h h2
  refine ⟨h1, h2, fun t ht => ?_, fun j hj => ?_, fun t ht => ?_, fun j hj => ?_, ?_, ⟨s, h8, ?_, fun i hi => ?_⟩, fun p hp => ?_⟩
  · rw [h _ (by omega), h _ (by omega), h _ (by omega), h _ (by omega)]
    exact h3 t ht
  · rw [h _ (by omega)]
    exact h4 j hj
  · rw [h _ (by omega)]
    exact h5 t ht
  · rw [h _ (by omega)]
    exact h6 j hj
  · rw [e1, e2]
    exact h7
  · rw [h _ (by omega)]
    exact h9
  · rw [h _ (by omega)]
    exact h10 i hi
  · rw [h _ (by omega), e1]
    exact h11 p hp
theorem ag_gn {g f : Nat → Int32} {u : Nat} {x : Int32} (h : ag g f) (hu : u < 4) : md_gn g u x = md_gn f u x := by
  unfold md_gn
  rw [h _ (by omega), h _ (by omega), h _ (by omega), h _ (by omega)]
theorem ag_sh {g f : Nat → Int32} {u : Nat} {m x : Int32} (h : ag g f) (hu : u < 4) : md_sh g u m x = md_sh f u m x := by
  unfold md_sh
  rw [h _ (by omega), h _ (by omega), h _ (by omega), h _ (by omega)]
theorem wv_tv {f : Nat → Int32} {P T : Nat} (hv : wv f P T) : md_tv f T := by
  intro u hu
  obtain ⟨kd, a, b, fe, h1, h2, h3, h4, h5, h6, h7, h8⟩ := hv.2.2.1 u hu
  have := hv.1
  exact ⟨⟨a, by omega, h6⟩, ⟨b, by omega, h7⟩⟩
theorem md_tv_go {g : Nat → Int32} {T i : Nat} {t z : Nat → Nat} (hT : T ≤ 4) (h : md_tv g T) : md_tv (md_go T t z g i) T := by
  intro u hu
  have e1 := go_tr (T := T) (t := t) (z := z) (g := g) (i := i) (w := 1) (show u < 4 by omega) (by omega)
  have e2 := go_tr (T := T) (t := t) (z := z) (g := g) (i := i) (w := 2) (show u < 4 by omega) (by omega)
  rw [show 4 + 5 * u + 1 = 5 + 5 * u by omega] at e1
  rw [show 4 + 5 * u + 2 = 6 + 5 * u by omega] at e2
  rw [e1, e2]
  exact h u hu
def wt (f : Nat → Int32) (T w i : Nat) : Nat := (aL f T).getD (OR (aL f T).length (w / md_fact (aL f T).length) i) 0
def wz (f : Nat → Int32) (T w i : Nat) : Nat := (aP f T).getD (OR (aL f T).length (w % md_fact (aL f T).length) i) 0
/-- the reference behind findOrders -/
def mf (M : pm_M) (f : Nat → Int32) (P T : Nat) : Prop :=
  M.1 29 0 3 = nI P ∧ M.1 29 0 4 = nI T ∧ M.1 29 0 21 = nI (md_fact (aL f T).length) ∧ M.1 29 0 22 = nI (aL f T).length ∧ (∀ r i, r < md_fact (aL f T).length → i < (aL f T).length → M.1 36 0 (4 * r + i) = nI (OR (aL f T).length r i)) ∧ (∀ i, i < (aL f T).length → M.1 37 0 i = nI ((aL f T).getD i 0)) ∧ (∀ i, i < (aL f T).length → M.1 38 0 i = nI ((aP f T).getD i 0)) ∧ M.1 30 0 = f
theorem mf_keep {M M' : pm_M} {f : Nat → Int32} {P T : Nat} (h : mf M f P T) (h30 : M'.1 30 0 = M.1 30 0) (h36 : M'.1 36 0 = M.1 36 0) (h37 : M'.1 37 0 = M.1 37 0) (h38 : M'.1 38 0 = M.1 38 0) (h3 : M'.1 29 0 3 = M.1 29 0 3) (h4 : M'.1 29 0 4 = M.1 29 0 4) (h21 : M'.1 29 0 21 = M.1 29 0 21) (h22 : M'.1 29 0 22 = M.1 29 0 22) : mf M' f P T := by
  unfold mf at h ⊢
  rw [h30, h36, h37, h38, h3, h4, h21, h22]
  exact h
theorem mf_set {M : pm_M} {f : Nat → Int32} {P T t : Nat} {g : Nat → Int32} (h : mf M f P T) (ht : t ≠ 29 ∧ t ≠ 30 ∧ t ≠ 36 ∧ t ≠ 37 ∧ t ≠ 38) : mf (pm_set M t 0 g) f P T := mf_keep h (pm_set_ne _ _ ht.2.1) (pm_set_ne _ _ ht.2.2.1) (pm_set_ne _ _ ht.2.2.2.1) (pm_set_ne _ _ ht.2.2.2.2) (by rw [pm_set_ne _ _ ht.1]) (by rw [pm_set_ne _ _ ht.1]) (by rw [pm_set_ne _ _ ht.1]) (by rw [pm_set_ne _ _ ht.1])
theorem mf_upd {M : pm_M} {f : Nat → Int32} {P T j : Nat} {x : Int32} (h : mf M f P T) (hj : j ≠ 3 ∧ j ≠ 4 ∧ j ≠ 21 ∧ j ≠ 22) : mf (pm_set M 29 0 (upd (M.1 29 0) j x)) f P T := by
  refine mf_keep h (pm_set_ne _ _ (by decide)) (pm_set_ne _ _ (by decide)) (pm_set_ne _ _ (by decide)) (pm_set_ne _ _ (by decide)) ?_ ?_ ?_ ?_
  all_goals
    rw [pm_set_at]
    unfold upd
    rw [if_neg (by omega)]
theorem mf_two {M : pm_M} {f : Nat → Int32} {P T : Nat} {x : Int64} (h : mf M f P T) : mf (M.1, x) f P T := h
theorem OR_lt {n r i : Nat} (hn : n ≤ 4) (hr : r < md_fact n) (hi : i < n) : OR n r i < n := by
  rw [oo_eq hn hr hi]
  exact oo_lt hn hr hi
theorem w_dm {N w : Nat} (h0 : 1 ≤ N) (hw : w < N * N) : w / N < N ∧ w % N < N := ⟨(Nat.div_lt_iff_lt_mul (by omega)).mpr hw, Nat.mod_lt _ (by omega)⟩
theorem wt_lt {f : Nat → Int32} {P T w i : Nat} (hv : wv f P T) (hw : w < md_fact (aL f T).length * md_fact (aL f T).length) (hi : i < (aL f T).length) : wt f T w i < T ∧ wz f T w i < T := by
  obtain ⟨hn4, hN24, hN1⟩ := aN hv
  obtain ⟨d1, d2⟩ := w_dm hN1 hw
  exact ⟨(aL_lt (OR_lt hn4 d1 hi)).1, (aP_lt (by rw [← hv.2.2.2.2.2.2.1]; exact OR_lt hn4 d2 hi)).1⟩
theorem ev_goesBy {M : pm_M} {f g : Nat → Int32} {P T w : Nat} (hv : wv f P T) (h : mf M f P T) (hg : md_tv g T) (hw : w < md_fact (aL f T).length * md_fact (aL f T).length) : pm_Ev mMo_goesBy [pm_r 29 0, pm_i (nI w)] (pm_set M 31 0 g) none (pm_set M 31 0 (md_go T (wt f T w) (wz f T w) g (aL f T).length)) := by
  obtain ⟨h3, h4, h21, h22, h36, h37, h38, h30⟩ := h
  have hT := hv.2.1
  obtain ⟨hn4, hN24, hN1⟩ := aN hv
  have hsq := sq_le hN24
  obtain ⟨d1, d2⟩ := w_dm hN1 hw
  refine pm_Sem_of (ls := [some (pm_r 29 0), some (pm_i (nI w)), none]) ok_mMo_goesBy (by decide +kernel) rfl (by decide) (Nat.le_of_ble_eq_true rfl) rfl ?_
  have a9 : ∀ y, (pm_set M 31 0 y).1 29 0 = M.1 29 0 := fun y => pm_set_ne _ _ (by decide)
  have a36 : ∀ y, (pm_set M 31 0 y).1 36 0 = M.1 36 0 := fun y => pm_set_ne _ _ (by decide)
  have a37 : ∀ y, (pm_set M 31 0 y).1 37 0 = M.1 37 0 := fun y => pm_set_ne _ _ (by decide)
  have a38 : ∀ y, (pm_set M 31 0 y).1 38 0 = M.1 38 0 := fun y => pm_set_ne _ _ (by decide)
  have e1 : nI w / nI (md_fact (aL f T).length) = nI (w / md_fact (aL f T).length) := pk_div (by omega) hN1 (by omega)
  have e2 : nI w - nI (w / md_fact (aL f T).length) * nI (md_fact (aL f T).length) = nI (w % md_fact (aL f T).length) := by rw [← e1]; exact pk_rem (by omega) hN1 (by omega)
  refine bMo_goesBy_0 ?_
  refine pm_upto (N := (aL f T).length) (P := fun i => pm_G mMo_goesBy 2 [some (pm_r 29 0), some (pm_i (nI w)), some (pm_i (nI i))] [] (pm_set M 31 0 (md_go T (wt f T w) (wz f T w) g i)) (pm_D none (pm_set M 31 0 (md_go T (wt f T w) (wz f T w) g (aL f T).length)))) ?_ ?_ 0 (Nat.zero_le _)
  · refine bMo_goesBy_2 (fun _ => bMo_goesBy_64 ⟨rfl, rfl⟩) (fun q => absurd (pm_yle ?_ (by omega)) q)
    rw [a9, h22]
  · intro i hi k2
    have i1 := md_ix (o := w / md_fact (aL f T).length) (i := i) (by omega) (by omega)
    have i2 := md_ix (o := w % md_fact (aL f T).length) (i := i) (by omega) (by omega)
    have o1 := h36 _ i d1 hi
    have o2 := h36 _ i d2 hi
    have l1 := OR_lt hn4 d1 hi
    have l2 := OR_lt hn4 d2 hi
    have t1 : M.1 37 0 (OR (aL f T).length (w / md_fact (aL f T).length) i) = nI (wt f T w i) := h37 _ l1
    have t2 : M.1 38 0 (OR (aL f T).length (w % md_fact (aL f T).length) i) = nI (wz f T w i) := h38 _ l2
    have c1 := pm_cl4 (show OR (aL f T).length (w / md_fact (aL f T).length) i ≤ 1000 by omega)
    have c2 := pm_cl4 (show OR (aL f T).length (w % md_fact (aL f T).length) i ≤ 1000 by omega)
    obtain ⟨b1, b2⟩ := wt_lt hv hw hi
    refine bMo_goesBy_2 (fun q => absurd q (pm_nle ?_ hi (by omega))) (fun _ => bMo_goesBy_10 (M1 := pm_set M 31 0 (md_go T (wt f T w) (wz f T w) g (i + 1))) ?_ ?_ ?_ ?_ ?_ ?_ ?_ (bMo_goesBy_58 ?_))
    · rw [a9, h22]
    · rw [a9, h21]
      exact nI_ne0 hN1 (by omega)
    · rw [a9, h21, e1]
      exact i1.2
    · rw [a9, h21, e1, i1.1, a36, o1]
      exact pm_vin (by omega) (by omega)
    · rw [a9, h21]
      exact nI_ne0 hN1 (by omega)
    · rw [a9, h21, e1, e2]
      exact i2.2
    · rw [a9, h21, e1, e2, i2.1, a36, o2]
      exact pm_vin (by omega) (by omega)
    · rw [a9, h21, h4, e1, e2, i1.1, i2.1, a36, o1, o2, c1, c2, a37, a38, t1, t2]
      exact ev_draws hT b1 (by omega) (md_tv_go hT hg)
    · rw [nI_1]
      exact k2
/-- what a way brings -/
def eW (f : Nat → Int32) (T p o q : Nat) : Int32 := f p + (aA f T (nI p) o + aB f T (nI p) q)
theorem way_val {f f' g : Nat → Int32} {P T w p : Nat} (hv : wv f P T) (hv' : wv f' P T) (eL : aL f' T = aL f T) (eP : aP f' T = aP f T) (hg : ag g f') (hw : w < md_fact (aL f T).length * md_fact (aL f T).length) (hp : p < 4) : md_go T (wt f T w) (wz f T w) g (aL f T).length p = eW f' T p (rA (aL f T).length (w / md_fact (aL f T).length)) (rB (aL f T).length (w / md_fact (aL f T).length) (w % md_fact (aL f T).length)) := by
  have hT := hv.2.1
  obtain ⟨hn4, hN24, hN1⟩ := aN hv
  obtain ⟨d1, d2⟩ := w_dm hN1 hw
  obtain ⟨gL, gP⟩ := ag_L hg hT
  have hn : (aL g T).length = (aL f T).length := by rw [gL, eL]
  have oe : ∀ i, i < (aL f T).length → OR (aL f T).length (w / md_fact (aL f T).length) i = oo (aL f T).length (w / md_fact (aL f T).length) i := fun i hi => oo_eq hn4 d1 hi
  have hmap : (List.range (aL f T).length).map (OR (aL f T).length (w / md_fact (aL f T).length)) = (List.range (aL f T).length).map (oo (aL f T).length (w / md_fact (aL f T).length)) := List.map_congr_left (fun i hi => oe i (List.mem_range.mp hi))
  have hperm : ((List.range (aL f T).length).map (OR (aL f T).length (w / md_fact (aL f T).length))).Perm (List.range (aL f T).length) := by rw [hmap]; exact oo_perm hn4 d1
  have key := way_end (f := g) (x := p) (s := OR (aL f T).length (w / md_fact (aL f T).length)) (q := OR (aL f T).length (w % md_fact (aL f T).length)) (ag_wv hg hv') hn hp (fun i hi => OR_lt hn4 d1 hi) (fun i hi => OR_lt hn4 d2 hi) (fun i j hi hj e => by rw [oe i hi, oe j hj] at e; exact oo_inj hn4 d1 hi hj e) hperm
  have ew : (fun i => (aL g T).getD (OR (aL f T).length (w / md_fact (aL f T).length) i) 0) = wt f T w := by
    funext i
    unfold wt
    rw [gL, eL]
  have ez : (fun i => (aP g T).getD (OR (aL f T).length (w % md_fact (aL f T).length) i) 0) = wz f T w := by
    funext i
    unfold wz
    rw [gP, eP]
  rw [ew, ez] at key
  rw [key]
  unfold eW
  rw [hg p (by omega)]
  obtain ⟨ra, rb⟩ := rA_ok hn4 d1
  obtain ⟨rc, rd⟩ := rB_ok hn4 d1 d2
  have hF : ∀ i, i < (aL f T).length → aF g T (nI p) i = aF f' T (nI p) i := by
    intro i hi
    unfold aF
    rw [gL, ag_gn hg (by have := (aL_lt (f := f') (T := T) (a := i) (by rw [eL]; exact hi)).1; omega)]
  have hS : ∀ i j, i < (aL f T).length → j < (aL f T).length → aS g T (nI p) i j = aS f' T (nI p) i j := by
    intro i j hi hj
    have b1 := (aL_lt (f := f') (T := T) (a := i) (by rw [eL]; exact hi)).1
    have b2 := (aP_lt (f := f') (T := T) (a := j) (by rw [eP, ← hv.2.2.2.2.2.2.1]; exact hj)).1
    unfold aS
    rw [gL, gP, ag_sh hg (by omega), hg (24 + (aP f' T).getD j 0) (by omega)]
  congr 2
  · unfold aA
    rw [eL]
    refine pm_sumI_congr (fun i hi => ?_)
    rw [ro_eq (show rA (aL f T).length (w / md_fact (aL f T).length) < 24 by omega) (by omega), rb i hi, oe i hi, hF _ (oo_lt hn4 d1 hi)]
  · unfold aB
    rw [eL, ← sum_perm (h := fun i => aS f' T (nI p) i (re_ord (rB (aL f T).length (w / md_fact (aL f T).length) (w % md_fact (aL f T).length)) i)) (oo_perm hn4 d1)]
    refine pm_sumI_congr (fun i hi => ?_)
    have ho := oo_lt hn4 d1 hi
    rw [ro_eq (show rB (aL f T).length (w / md_fact (aL f T).length) (w % md_fact (aL f T).length) < 24 by omega) (by omega), rd i hi, oe i hi, oo_eq hn4 d2 hi, hS _ _ ho (oo_lt hn4 d2 hi)]
