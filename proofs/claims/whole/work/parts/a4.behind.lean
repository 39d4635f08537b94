/-! behind all lines -/
def okP (A : tD) : Prop := ∀ t, t < A.2.2.1 → (∃ a, a < A.2.1 ∧ A.1 (5 + 5 * t) = nI a) ∧ ∃ c, c < A.2.1 ∧ A.1 (6 + 5 * t) = nI c
theorem lst_all {p : Nat → Bool} : ∀ {n : Nat}, (∀ i, i < n → p i = true) → (md_lst p n).length = n
  | 0, _ => rfl
  | n + 1, h => by
    rw [md_lst_succ, if_pos (h n (by omega)), List.length_append, lst_all (n := n) (fun i hi => h i (by omega))]
    rfl
theorem aV_wv {A : tD} (hV : aV A) (hO : okP A) : wv A.1 A.2.1 A.2.2.1 := by
  obtain ⟨f, P, T, Z, D, g⟩ := A
  obtain ⟨⟨h1, h2, h3, h4⟩, h5, h6, h7, h8, h9, h10, h11⟩ := hV
  dsimp only at h1 h2 h3 h4 h5 h6 h7 h8 h9 h10 h11
  have hO : ∀ t, t < T → (∃ a, a < P ∧ f (5 + 5 * t) = nI a) ∧ ∃ c, c < P ∧ f (6 + 5 * t) = nI c := hO
  have l1 : (aL f T).length = T := lst_all (fun i hi => decide_eq_true (h8 i (by omega)))
  have l2 : (aP f T).length = T := lst_all (fun i hi => decide_eq_true (h9 i (by omega)))
  refine ⟨h1, h2, fun t ht => ?_, fun j hj => h7 j (by have : j < T := hj; omega), fun t ht => Or.inl (h8 t (by have : t < T := ht; omega)), fun j hj => Or.inl (h9 j (by have : j < T := hj; omega)), by show (aL f T).length = (aP f T).length; rw [l1, l2], ⟨0, by omega, h10, fun i hi => absurd hi (Nat.not_lt_zero _)⟩, fun p hp => ?_⟩
  · have ht' : t < T := ht
    obtain ⟨kd, a, c, fe, k1, k2, k3, k4, k5, k6, k7, k8⟩ := h6 t ht'
    obtain ⟨⟨a', a1, a2⟩, c', c1, c2⟩ := hO t ht'
    exact ⟨kd, a', c', fe, k1, a1, c1, k4, k5, a2, c2, k8⟩
  · obtain ⟨v, v1, v2⟩ := h5 p hp
    show (f p).toInt.natAbs ≤ 99 + 300 * (T - (aL f T).length)
    rw [v2, nI_toInt (by omega)]
    omega
theorem cD_cw {M : pm_M} {A : tD} (hd : cD M A) (hV : aV A) : cw M 1 A.1 A.2.1 A.2.2.1 := by
  obtain ⟨f, P, T, Z, D, g⟩ := A
  obtain ⟨⟨h1, h2, h3, h4⟩, h5, h6, h7, h8, h9, h10, h11⟩ := hV
  obtain ⟨⟨d1, d2, d3⟩, d4, d5, d6, d7, d8, ⟨d9, d10⟩, d11⟩ := hd
  dsimp only at h1 h2 h3 h4 h5 h6 h7 h8 h9 h10 h11 d1 d2 d4 d5 d7 d9 d10 d11
  refine ⟨d1, d2, d3.trans h10.symm, d4, d5, fun t ht => ?_, fun z hz => ?_, fun z hz => ?_, fun s i hs h6' hi => ?_⟩
  · have ht' : t < T := ht
    show M.1 7 1 t = f (8 + 5 * t)
    rw [d6 t (by omega), h8 t (by omega)]
  · have hz' : z < T := hz
    exact d7 z (by omega)
  · have hz' : z < T := hz
    show M.1 9 1 z = f (28 + z)
    rw [d8 z (by omega), h9 z (by omega)]
  · have hs' : f 32 = nI s := hs
    rw [h10] at hs'
    have : 0 = s := (pm_eq4 (a := 0) (b := s) (by omega) (by omega)).mp hs'
    omega
theorem lack_at {M : pm_M} {A : tD} (hd : cD M A) (hV : aV A) : (fWh_lacksPeople 1 M = 0 ↔ okP A) ∧ sWh_lacksPeople 1 M := by
  have hc := cD_cw hd hV
  obtain ⟨f, P, T, Z, D, g⟩ := A
  obtain ⟨⟨h1, h2, h3, h4⟩, h5, h6, h7, h8, h9, h10, h11⟩ := hV
  dsimp only at h1 h2 h3 h4 h5 h6 h7 h8 h9 h10 h11 hc
  refine ⟨?_, T, h2, hc.2.1⟩
  have pl : ∀ t, t < T → (pm_lack 1 M t = false ↔ ((∃ a, a < P ∧ f (5 + 5 * t) = nI a) ∧ ∃ c, c < P ∧ f (6 + 5 * t) = nI c)) := by
    intro t ht
    obtain ⟨e0, e1, e2, e3⟩ := cw_trait hc h2 ht
    unfold pm_lack
    rw [e1, e2]
    by_cases q1 : ∃ a, a < P ∧ f (5 + 5 * t) = nI a
    · obtain ⟨a, a1, a2⟩ := q1
      by_cases q2 : ∃ c, c < P ∧ f (6 + 5 * t) = nI c
      · obtain ⟨c, c1, c2⟩ := q2
        rw [a2, c2, hasP_good hc.1 h1 a1, hasP_good hc.1 h1 c1]
        exact ⟨fun _ => ⟨⟨a, a1, rfl⟩, c, c1, rfl⟩, fun _ => by decide⟩
      · rw [hasP_bad hc.1 h1 q2]
        exact ⟨fun x => absurd x (by simp), fun x => absurd x.2 q2⟩
    · rw [hasP_bad hc.1 h1 q1]
      exact ⟨fun x => absurd x (by simp), fun x => absurd x.1 q1⟩
  unfold fWh_lacksPeople
  rw [hc.2.1, pm_cl4 (by omega)]
  by_cases q : (List.range T).any (pm_lack 1 M) = true
  · rw [if_pos q]
    obtain ⟨t, t1, t2⟩ := List.any_eq_true.mp q
    have t3 := List.mem_range.mp t1
    refine ⟨fun x => absurd x (by decide), fun x => ?_⟩
    have := (pl t t3).mpr (x t t3)
    rw [t2] at this
    cases this
  · rw [if_neg q]
    refine ⟨fun _ t ht => (pl t ht).mp ?_, fun _ => rfl⟩
    cases e : pm_lack 1 M t with
    | false => rfl
    | true => exact absurd (List.any_eq_true.mpr ⟨t, List.mem_range.mpr ht, e⟩) q
theorem mx_lt {x y z : Int32} : mx x y < z ↔ x < z ∧ y < z := by
  unfold mx
  by_cases q : x ≤ y
  · rw [if_pos q]
    rw [Int32.le_iff_toInt_le] at q
    rw [Int32.lt_iff_toInt_lt, Int32.lt_iff_toInt_lt]
    omega
  · rw [if_neg q]
    rw [Int32.le_iff_toInt_le] at q
    rw [Int32.lt_iff_toInt_lt, Int32.lt_iff_toInt_lt]
    omega
theorem hiT_lt {f : Nat → Int32} {P : Nat} (hP : P ≤ 4) : ∀ {T : Nat}, (hiT f T < nI P ↔ ∀ t, t < T → f (5 + 5 * t) < nI P ∧ f (6 + 5 * t) < nI P)
  | 0 => by
    rw [hiT]
    refine ⟨fun _ t ht => absurd ht (Nat.not_lt_zero _), fun _ => ?_⟩
    rw [Int32.lt_iff_toInt_lt, nI_toInt (by omega)]
    have : (-4 : Int32).toInt = -4 := by decide
    omega
  | T + 1 => by
    rw [hiT, mx_lt, mx_lt, hiT_lt hP (T := T)]
    constructor
    · rintro ⟨h1, h2, h3⟩ t ht
      by_cases e : t = T
      · rw [e]
        exact ⟨h2, h1⟩
      · exact h3 t (by omega)
    · intro h
      exact ⟨(h T (by omega)).2, (h T (by omega)).1, fun t ht => h t (by omega)⟩
theorem hi_ok {A : tD} (hV : aV A) : ¬ nI A.2.1 ≤ hiT A.1 A.2.2.1 ↔ okP A := by
  obtain ⟨f, P, T, Z, D, g⟩ := A
  obtain ⟨⟨h1, h2, h3, h4⟩, h5, h6, h7, h8, h9, h10, h11⟩ := hV
  dsimp only at h1 h2 h6 ⊢
  have e : ¬ nI P ≤ hiT f T ↔ hiT f T < nI P := by
    rw [Int32.le_iff_toInt_le, Int32.lt_iff_toInt_lt]
    omega
  rw [e, hiT_lt h1]
  constructor
  · intro h t ht
    have ht' : t < T := ht
    obtain ⟨kd, a, c, fe, k1, k2, k3, k4, k5, k6, k7, k8⟩ := h6 t ht'
    have := h t ht'
    rw [k6, k7] at this
    exact ⟨⟨a, (pm_lt4 (a := a) (b := P) (by omega) (by omega)).mp this.1, k6⟩, c, (pm_lt4 (a := c) (b := P) (by omega) (by omega)).mp this.2, k7⟩
  · intro h t ht
    obtain ⟨⟨a, a1, a2⟩, c, c1, c2⟩ := h t ht
    have a2' : f (5 + 5 * t) = nI a := a2
    have c2' : f (6 + 5 * t) = nI c := c2
    have a1' : a < P := a1
    have c1' : c < P := c1
    rw [a2', c2']
    exact ⟨(pm_lt4 (by omega) (by omega)).mpr a1', (pm_lt4 (by omega) (by omega)).mpr c1'⟩
/-- the told draws: what is refused, or the row behind them -/
noncomputable def dwO (A : tD) : Nat ⊕ (Nat × Int32 × (Nat → Int32)) := rd (fun _ => 0) (fun i => A.2.2.2.2.2 (2 * i)) (fun i => A.2.2.2.2.2 (2 * i + 1)) A.2.2.1 A.2.2.2.2.1 0 A.1
def dwC (M M' : pm_M) (n i P T : Nat) : Nat ⊕ (Nat × Int32 × (Nat → Int32)) → Prop
  | .inl _ => pm_G mTe_tellBehindAll 36 [some (pm_r 23 0), some (pm_i (nI n)), some (pm_r 4 1), some (pm_i (nI i))] [] M (pm_D (some (pm_i 0)) M') ∧ M'.1 23 0 0 = nI 8 ∧ M'.1 23 0 1 = nI n
  | .inr (_, _, f') => pm_G mTe_tellBehindAll 36 [some (pm_r 23 0), some (pm_i (nI n)), some (pm_r 4 1), some (pm_i (nI i))] [] M (pm_D (some (pm_i 1)) M') ∧ M'.1 23 0 0 = M.1 23 0 0 ∧ cw M' 1 f' P T ∧ wv f' P T
theorem c_draws {n P T D : Nat} {X Y : Nat → Int32} (hD : D ≤ 4) : ∀ (m i : Nat) (f : Nat → Int32) (M : pm_M), i + m = D → cw M 1 f P T → wv f P T → M.1 23 0 4 = nI D → (∀ j, j < D → M.1 25 0 j = X j ∧ M.1 26 0 j = Y j) → ∃ M', cf M M' ∧ M'.1 21 0 = M.1 21 0 ∧ dwC M M' n i P T (rd (fun _ => 0) X Y T m i f)
  | 0, i, f, M, hi, h, hv, h4, hx => by
    have : i = D := by omega
    subst this
    exact ⟨M, cf_rfl, rfl, bTe_tellBehindAll_36 (fun _ => bTe_tellBehindAll_93 rfl ⟨rfl, rfl⟩) (fun c => absurd (by rw [h4]; exact (pm_le4 (by omega) (by omega)).mpr (by omega)) c), rfl, h, hv⟩
  | m + 1, i, f, M, hi, h, hv, h4, hx => by
    have hT := hv.2.1
    have hP := hv.1
    have le : ¬ M.1 23 0 4 ≤ nI i := by
      rw [h4]
      exact fun c => by have := (pm_le4 (by omega) (by omega)).mp c; omega
    have vi : vp_in (nI i) 4 := pm_vin (by omega) (by omega)
    obtain ⟨x1, x2⟩ := hx i (by omega)
    have ci : (nI i).toNatClampNeg = i := pm_cl4 (by omega)
    by_cases hO : okD f T (X i) (Y i)
    · obtain ⟨t, j, ht, hj, hxt, hyj, hdt, hbj⟩ := hO
      rw [rd_yes rfl hT ht hj hxt hyj hdt hbj]
      obtain ⟨p1, p2⟩ := cw_pull h hP hT ht hj
      obtain ⟨r1, r2⟩ := ref_at h hT ht hj
      rw [if_pos hdt, if_pos hbj] at r1
      have t1 := tch_pull (k := 1) (a1 := nI t) (a2 := nI j) (M := M)
      obtain ⟨M', k1, k2, k3⟩ := c_draws (n := n) hD m (i + 1) _ _ (by omega) p1 (wv_draw hv ht hj hdt hbj) (by rw [t1 23 0 (by decide)]; exact h4) (fun j9 hj9 => by rw [t1 25 0 (by decide), t1 26 0 (by decide)]; exact hx j9 hj9)
      have cfp : cf M (gWh_pull 1 (nI t) (nI j) M) := by
        unfold gWh_pull
        exact cf_set (cf_set (cf_set cf_rfl rfl) rfl) rfl
      have er := eWh_refusal r2
      have ep := eWh_pull p2
      rw [r1] at er
      have go : ∀ {v : Option pm_V}, pm_G mTe_tellBehindAll 36 [some (pm_r 23 0), some (pm_i (nI n)), some (pm_r 4 1), some (pm_i (nI (i + 1)))] [] (gWh_pull 1 (nI t) (nI j) M) (pm_D v M') → pm_G mTe_tellBehindAll 36 [some (pm_r 23 0), some (pm_i (nI n)), some (pm_r 4 1), some (pm_i (nI i))] [] M (pm_D v M') := by
        intro v kk
        refine bTe_tellBehindAll_36 (fun c => absurd c le) (fun _ => bTe_tellBehindAll_44 (r := 0) (M1 := M) vi vi (by rw [ci, x1, x2, hxt, hyj]; exact er) (bTe_tellBehindAll_60 (fun _ => bTe_tellBehindAll_71 (M1 := gWh_pull 1 (nI t) (nI j) M) vi vi (by rw [ci, x1, x2, hxt, hyj]; exact ep) (bTe_tellBehindAll_87 ?_)) (fun c => absurd rfl c)))
        rw [nI_1]
        exact kk
      refine ⟨M', cf_trans cfp k1, by rw [k2]; exact t1 21 0 (by decide), ?_⟩
      revert k3
      cases rd (fun _ => 0) X Y T m (i + 1) (md_draw T t j f) with
      | inl z => exact fun k3 => ⟨go k3.1, k3.2⟩
      | inr z =>
        obtain ⟨d, x, f'⟩ := z
        exact fun k3 => ⟨go k3.1, by rw [k3.2.1, t1 23 0 (by decide)], k3.2.2⟩
    · rw [rd_no rfl hO]
      obtain ⟨M2, b1, b2, b3, b4⟩ := c_blame (M := M) (x := 8) (y := nI n)
      have hr : ¬ fWh_refusal 1 (X i) (Y i) M = 0 ∧ sWh_refusal 1 (X i) (Y i) M := by
        by_cases hb : (¬ ∃ t, t < T ∧ X i = nI t) ∨ ¬ ∃ t, t < T ∧ Y i = nI t
        · obtain ⟨r1, r2⟩ := ref_bad h hT hb
          exact ⟨by rw [r1]; decide, r2⟩
        · obtain ⟨hb1, hb2⟩ := not_or.mp hb
          obtain ⟨t, ht, hxt⟩ := Classical.not_not.mp hb1
          obtain ⟨j, hj, hyj⟩ := Classical.not_not.mp hb2
          obtain ⟨r1, r2⟩ := ref_at h hT ht hj
          rw [hxt, hyj]
          refine ⟨?_, r2⟩
          rw [r1]
          by_cases q1 : f (8 + 5 * t) = -4
          · rw [if_pos q1, if_neg (fun q2 => hO ⟨t, j, ht, hj, hxt, hyj, q1, q2⟩)]
            decide
          · rw [if_neg q1]
            decide
      refine ⟨M2, cf_tch b2 (by decide), b2 21 0 (by decide), bTe_tellBehindAll_36 (fun c => absurd c le) (fun _ => bTe_tellBehindAll_44 (r := fWh_refusal 1 (X i) (Y i) M) (M1 := M) vi vi (by rw [ci, x1, x2]; exact eWh_refusal hr.2) (bTe_tellBehindAll_60 (fun c => absurd c hr.1) (fun _ => bTe_tellBehindAll_63 b1 (bTe_tellBehindAll_70 rfl ⟨rfl, rfl⟩)))), b3, b4⟩
/-- all that is asked behind the lines -/
noncomputable def bhO (n : Nat) (A : tD) : (Nat × Nat) ⊕ (Nat → Int32) :=
  if @decide (okP A) (Classical.propDecidable _) = true then (if A.2.2.1 < A.2.2.2.1 then .inl (7, n) else match dwO A with
    | .inl _ => .inl (8, n)
    | .inr (_, _, f') => .inr f') else .inl (6, n)
def bhC (M M' : pm_M) (n : Nat) (A : tD) : (Nat × Nat) ⊕ (Nat → Int32) → Prop
  | .inl (c, a) => pm_Ev mTe_tellBehindAll [pm_r 23 0, pm_i (nI n), pm_r 4 1] M (some (pm_i 0)) M' ∧ M'.1 23 0 0 = nI c ∧ M'.1 23 0 1 = nI a
  | .inr f' => pm_Ev mTe_tellBehindAll [pm_r 23 0, pm_i (nI n), pm_r 4 1] M (some (pm_i 1)) M' ∧ M'.1 23 0 0 = M.1 23 0 0 ∧ cw M' 1 f' A.2.1 A.2.2.1 ∧ wv f' A.2.1 A.2.2.1
theorem c_behind {M : pm_M} {n : Nat} {A : tD} (hd : cD M A) (hV : aV A) : ∃ M', cf M M' ∧ M'.1 21 0 = M.1 21 0 ∧ bhC M M' n A (bhO n A) := by
  obtain ⟨l1, l2⟩ := lack_at hd hV
  have start : ∀ {x : Int32} {M' : pm_M}, pm_G mTe_tellBehindAll 4 [some (pm_r 23 0), some (pm_i (nI n)), some (pm_r 4 1), none] [pm_i (fWh_lacksPeople 1 M)] M (pm_D (some (pm_i x)) M') → pm_Ev mTe_tellBehindAll [pm_r 23 0, pm_i (nI n), pm_r 4 1] M (some (pm_i x)) M' := by
    intro x M' kk
    refine pm_Sem_of (ls := [some (pm_r 23 0), some (pm_i (nI n)), some (pm_r 4 1), none]) ok_mTe_tellBehindAll (by decide +kernel) rfl (by decide) (Nat.le_of_ble_eq_true rfl) rfl ?_
    exact bTe_tellBehindAll_0 (eWh_lacksPeople l2) kk
  unfold bhO
  by_cases q6 : okP A
  · rw [if_pos (by simpa using q6)]
    have hc := cD_cw hd hV
    have hv := aV_wv hV q6
    have e1 := hd.2.2.2.2.2.2.1.1
    have e2 := hd.1.2.1
    have hA := hV.1
    by_cases q7 : A.2.2.1 < A.2.2.2.1
    · rw [if_pos q7]
      obtain ⟨M2, b1, b2, b3, b4⟩ := c_blame (M := M) (x := 7) (y := nI n)
      refine ⟨M2, cf_tch b2 (by decide), b2 21 0 (by decide), start (bTe_tellBehindAll_4 (fun _ => bTe_tellBehindAll_15 (fun c => ?_) (fun _ => bTe_tellBehindAll_26 b1 (bTe_tellBehindAll_33 rfl ⟨rfl, rfl⟩))) (fun c => absurd (l1.mpr q6) c)), b3, b4⟩
      rw [e1, e2] at c
      have := (pm_le4 (by omega) (by omega)).mp c
      omega
    · rw [if_neg q7]
      obtain ⟨M', k1, k2, k3⟩ := c_draws (n := n) (P := A.2.1) (T := A.2.2.1) (X := fun i => A.2.2.2.2.2 (2 * i)) (Y := fun i => A.2.2.2.2.2 (2 * i + 1)) hA.2.2.2 A.2.2.2.2.1 0 A.1 M (by omega) hc hv hd.2.2.2.2.2.2.1.2 hd.2.2.2.2.2.2.2
      have go : ∀ {x : Int32}, pm_G mTe_tellBehindAll 36 [some (pm_r 23 0), some (pm_i (nI n)), some (pm_r 4 1), some (pm_i 0)] [] M (pm_D (some (pm_i x)) M') → pm_Ev mTe_tellBehindAll [pm_r 23 0, pm_i (nI n), pm_r 4 1] M (some (pm_i x)) M' := fun kk => start (bTe_tellBehindAll_4 (fun _ => bTe_tellBehindAll_15 (fun _ => bTe_tellBehindAll_34 kk) (fun c => absurd (by rw [e1, e2]; exact (pm_le4 (by omega) (by omega)).mpr (by omega)) c)) (fun c => absurd (l1.mpr q6) c))
      refine ⟨M', k1, k2, ?_⟩
      unfold dwO
      revert k3
      cases rd (fun _ => 0) (fun i => A.2.2.2.2.2 (2 * i)) (fun i => A.2.2.2.2.2 (2 * i + 1)) A.2.2.1 A.2.2.2.2.1 0 A.1 with
      | inl z => exact fun k3 => ⟨go k3.1, k3.2⟩
      | inr z =>
        obtain ⟨d, x, f'⟩ := z
        exact fun k3 => ⟨go k3.1, k3.2⟩
  · rw [if_neg (by simpa using q6)]
    obtain ⟨M2, b1, b2, b3, b4⟩ := c_blame (M := M) (x := 6) (y := nI n)
    exact ⟨M2, cf_tch b2 (by decide), b2 21 0 (by decide), start (bTe_tellBehindAll_4 (fun c => absurd (l1.mp c) q6) (fun _ => bTe_tellBehindAll_7 b1 (bTe_tellBehindAll_14 rfl ⟨rfl, rfl⟩))), b3, b4⟩
