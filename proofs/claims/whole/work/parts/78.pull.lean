/-! a draw, of the class's wheel and of the row -/
theorem pm_acc_congr {b b' : Int32} {g h : Nat → Int32} (hb : b = b') : ∀ {n : Nat}, (∀ i, i < n → g i = h i) → pm_acc b g n = pm_acc b' h n
  | 0, _ => hb
  | n + 1, hh => by rw [pm_acc, pm_acc, pm_acc_congr hb (n := n) (fun i hi => hh i (by omega)), hh n (by omega)]
theorem cw_pull {M : pm_M} {k : Nat} {f : Nat → Int32} {P T t j : Nat} (h : cw M k f P T) (hP : P ≤ 4) (hT : T ≤ 4) (ht : t < T) (hj : j < T) : cw (gWh_pull k (nI t) (nI j) M) k (md_draw T t j f) P T ∧ sWh_pull k (nI t) (nI j) M := by
  refine ⟨?_, ⟨P, hP, h.1⟩, ⟨T, hT, h.2.1⟩, ⟨t, by omega, rfl⟩, ⟨j, by omega, rfl⟩⟩
  have h0 := h
  obtain ⟨h1, h2, h3, h5, h6, h7, h8, h9, h10⟩ := h
  unfold gWh_pull
  rw [h1, h2, pm_cl4 (show P ≤ 1000 by omega), pm_cl4 (show T ≤ 1000 by omega), pm_cl4 (show t ≤ 1000 by omega), pm_cl4 (show j ≤ 1000 by omega)]
  have hi : ∀ y, 4 ≤ y → y ≠ 28 + j → y ≠ 8 + 5 * t → md_draw T t j f y = f y := fun y a b c => by
    unfold md_draw
    rw [if_neg (by omega), if_neg b, if_neg c]
  unfold cw
  have n9 : ∀ (M' : pm_M) (a b : Nat) (g : Nat → Int32), b ≠ a → (pm_set M' a k g).1 b k = M'.1 b k := fun M' a b g hb => pm_set_ne _ _ (Ne.symm hb)
  rw [n9 _ 9 4 _ (by decide), n9 _ 7 4 _ (by decide), n9 _ 5 4 _ (by decide), n9 _ 9 5 _ (by decide), n9 _ 7 5 _ (by decide), pm_set_at, n9 _ 9 6 _ (by decide), n9 _ 7 6 _ (by decide), n9 _ 5 6 _ (by decide), n9 _ 9 7 _ (by decide), pm_set_at, n9 _ 9 8 _ (by decide), n9 _ 7 8 _ (by decide), n9 _ 5 8 _ (by decide), pm_set_at, n9 _ 9 10 _ (by decide), n9 _ 7 10 _ (by decide), n9 _ 5 10 _ (by decide), n9 _ 9 11 _ (by decide), n9 _ 7 11 _ (by decide), n9 _ 5 11 _ (by decide)]
  refine ⟨h1, h2, ?_, fun p hp => ?_, fun u w hu hw => ?_, fun u hu => ?_, fun u hu => ?_, fun u hu => ?_, fun s i hs hs6 hi' => ?_⟩
  · rw [hi 32 (by omega) (by omega) (by omega)]
    exact h3
  · rw [if_pos hp]
    unfold pm_purse pm_fees md_draw md_day
    rw [if_pos (by omega), if_pos (by omega), cw_share h0 hT ht, h8 j hj]
    congr 1
    refine pm_acc_congr (h5 p hp) (fun u hu => ?_)
    rw [h7 u hu, cw_fee h0 hT hu]
  · rw [hi _ (by omega) (by omega) (by omega)]
    exact h6 u w hu hw
  · unfold upd
    by_cases e : u = t
    · subst e
      rw [if_pos rfl]
      unfold md_draw
      rw [if_neg (by omega), if_neg (by omega), if_pos rfl]
    · rw [if_neg e, hi _ (by omega) (by omega) (by omega)]
      exact h7 u hu
  · rw [hi _ (by omega) (by omega) (by omega)]
    exact h8 u hu
  · unfold upd
    by_cases e : u = j
    · subst e
      rw [if_pos rfl]
      unfold md_draw
      rw [if_neg (by omega), if_pos rfl]
    · rw [if_neg e, hi _ (by omega) (by omega) (by omega)]
      exact h9 u hu
  · rw [hi 32 (by omega) (by omega) (by omega)] at hs
    rw [hi _ (by omega) (by omega) (by omega), hi _ (by omega) (by omega) (by omega)]
    exact h10 s i hs hs6 hi'
theorem lst_drop {p p' : Nat → Bool} {t : Nat} (hp : p t = true) : ∀ {n : Nat}, t < n → (∀ i, i < n → p' i = (p i && decide (i ≠ t))) → (md_lst p' n).length + 1 = (md_lst p n).length
  | n + 1, ht, h => by
    rw [md_lst_succ, md_lst_succ]
    have hn := h n (by omega)
    by_cases e : t = n
    · subst e
      rw [hn, hp, if_pos rfl, List.length_append]
      have e2 : md_lst p' t = md_lst p t := md_lst_congr (fun i hi => by
        rw [h i (by omega), decide_eq_true (show i ≠ t by omega), Bool.and_true])
      simp [e2]
    · have ih := lst_drop hp (n := n) (by omega) (fun i hi => h i (by omega))
      rw [hn, decide_eq_true (show n ≠ t by omega), Bool.and_true]
      by_cases q : p n = true
      · rw [if_pos q, if_pos q, List.length_append, List.length_append]
        simp only [List.length_singleton]
        omega
      · rw [if_neg q, if_neg q]
        exact ih
theorem acc_bd {b : Int32} {g : Nat → Int32} {a : Nat} (hb : bd b a) (ha : a < 2 ^ 20) : ∀ {n : Nat}, n ≤ 4 → (∀ i, i < n → bd (g i) 18) → bd (pm_acc b g n) (a + 18 * n)
  | 0, _, _ => hb
  | n + 1, hn, h => by
    rw [pm_acc]
    exact bd_mono (bd_add (acc_bd hb ha (n := n) (by omega) (fun i hi => h i (by omega))) (h n (by omega)) (by omega)).1 (by omega)
theorem wv_draw {f : Nat → Int32} {P T t j : Nat} (hv : wv f P T) (ht : t < T) (hj : j < T) (hd : f (8 + 5 * t) = -4) (hb : f (28 + j) = -4) : wv (md_draw T t j f) P T := by
  have hv0 := hv
  obtain ⟨h1, h2, h3, h4, h5, h6, h7, ⟨s, h8, h9, h10⟩, h11⟩ := hv
  have hi : ∀ y, 4 ≤ y → y ≠ 28 + j → y ≠ 8 + 5 * t → md_draw T t j f y = f y := fun y a b c => by
    unfold md_draw
    rw [if_neg (by omega), if_neg b, if_neg c]
  have ed : ∀ u, u < T → md_draw T t j f (8 + 5 * u) = if u = t then nI j else f (8 + 5 * u) := fun u hu => by
    by_cases e : u = t
    · subst e
      rw [if_pos rfl]
      unfold md_draw
      rw [if_neg (by omega), if_neg (by omega), if_pos rfl]
    · rw [if_neg e, hi _ (by omega) (by omega) (by omega)]
  have eb : ∀ u, u < T → md_draw T t j f (28 + u) = if u = j then nI t else f (28 + u) := fun u hu => by
    by_cases e : u = j
    · subst e
      rw [if_pos rfl]
      unfold md_draw
      rw [if_neg (by omega), if_pos rfl]
    · rw [if_neg e, hi _ (by omega) (by omega) (by omega)]
  have l1 : (aL (md_draw T t j f) T).length + 1 = (aL f T).length := lst_drop (t := t) (decide_eq_true hd) ht (fun i hi' => by
    rw [ed i hi']
    by_cases e : i = t
    · rw [if_pos e, decide_eq_false (nI_ne4 (show j < 4 by omega))]
      simp [e]
    · rw [if_neg e]
      simp [e])
  have l2 : (aP (md_draw T t j f) T).length + 1 = (aP f T).length := lst_drop (t := j) (decide_eq_true hb) hj (fun i hi' => by
    rw [eb i hi']
    by_cases e : i = j
    · rw [if_pos e, decide_eq_false (nI_ne4 (show t < 4 by omega))]
      simp [e]
    · rw [if_neg e]
      simp [e])
  refine ⟨h1, h2, fun u hu => ?_, fun u hu => ?_, fun u hu => ?_, fun u hu => ?_, by omega, ⟨s, h8, ?_, fun i hi' => ?_⟩, fun p hp => ?_⟩
  · rw [hi _ (by omega) (by omega) (by omega), hi _ (by omega) (by omega) (by omega), hi _ (by omega) (by omega) (by omega), hi _ (by omega) (by omega) (by omega)]
    exact h3 u hu
  · rw [hi _ (by omega) (by omega) (by omega)]
    exact h4 u hu
  · rw [ed u hu]
    by_cases e : u = t
    · rw [if_pos e]
      exact Or.inr ⟨j, hj, rfl⟩
    · rw [if_neg e]
      exact h5 u hu
  · rw [eb u hu]
    by_cases e : u = j
    · rw [if_pos e]
      exact Or.inr ⟨t, ht, rfl⟩
    · rw [if_neg e]
      exact h6 u hu
  · rw [hi _ (by omega) (by omega) (by omega)]
    exact h9
  · rw [hi _ (by omega) (by omega) (by omega)]
    exact h10 i hi'
  · have hle := aL_len (f := f) (T := T)
    obtain ⟨am, ha1, ha2⟩ := h4 j hj
    have b1 : bd (f p) (99 + 300 * (T - (aL f T).length)) := h11 p hp
    have b2 : bd (pm_acc (f p) (fun u => if f (8 + 5 * u) = -4 then md_gn f u (nI p) else 0) T) (99 + 300 * (T - (aL f T).length) + 18 * T) := acc_bd b1 (by omega) h2 (fun i hi' => bd_ite _ (gn_bd hv0 hi' _))
    have b3 : bd (md_sh f t (f (24 + j)) (nI p)) 189 := by
      rw [ha2]
      exact sh_bd hv0 ht ha1 _
    have b4 := (bd_add b2 b3 (by omega)).1
    have e : md_draw T t j f p = pm_acc (f p) (fun u => if f (8 + 5 * u) = -4 then md_gn f u (nI p) else 0) T + md_sh f t (f (24 + j)) (nI p) := by
      unfold md_draw md_day
      rw [if_pos (by omega), if_pos (by omega)]
    rw [e]
    exact Nat.le_trans b4 (by omega)
