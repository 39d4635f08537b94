/-! a way of the reference, from its first day to its last -/
def md_go (T : Nat) (t z : Nat → Nat) (g : Nat → Int32) : Nat → Nat → Int32
  | 0 => g
  | i + 1 => md_draw T (t i) (z i) (md_go T t z g i)
theorem go_hi {T : Nat} {t z : Nat → Nat} {g : Nat → Int32} {y : Nat} (hy : 4 ≤ y) : ∀ {i : Nat}, (∀ j, j < i → y ≠ 28 + z j ∧ y ≠ 8 + 5 * t j) → md_go T t z g i y = g y
  | 0, _ => rfl
  | i + 1, h => by
    rw [md_go]
    unfold md_draw
    rw [if_neg (by omega), if_neg (h i (by omega)).1, if_neg (h i (by omega)).2]
    exact go_hi hy (fun j hj => h j (by omega))
theorem go_tr {T : Nat} {t z : Nat → Nat} {g : Nat → Int32} {i u w : Nat} (hu : u < 4) (hw : w < 4) : md_go T t z g i (4 + 5 * u + w) = g (4 + 5 * u + w) := go_hi (by omega) (fun j _ => by omega)
theorem go_am {T : Nat} {t z : Nat → Nat} {g : Nat → Int32} {i u : Nat} (hu : u < 4) (ht : ∀ j, j < i → t j < 4) : md_go T t z g i (24 + u) = g (24 + u) := go_hi (by omega) (fun j hj => by have := ht j hj; omega)
theorem go_gn {T : Nat} {t z : Nat → Nat} {g : Nat → Int32} {i u : Nat} {x : Int32} (hu : u < 4) : md_gn (md_go T t z g i) u x = md_gn g u x := by
  have e0 : md_go T t z g i (4 + 5 * u) = g (4 + 5 * u) := go_tr (w := 0) hu (by omega)
  have e1 : md_go T t z g i (5 + 5 * u) = g (5 + 5 * u) := by have := go_tr (T := T) (t := t) (z := z) (g := g) (i := i) (w := 1) hu (by omega); rw [show 4 + 5 * u + 1 = 5 + 5 * u by omega] at this; exact this
  have e2 : md_go T t z g i (6 + 5 * u) = g (6 + 5 * u) := by have := go_tr (T := T) (t := t) (z := z) (g := g) (i := i) (w := 2) hu (by omega); rw [show 4 + 5 * u + 2 = 6 + 5 * u by omega] at this; exact this
  have e3 : md_go T t z g i (7 + 5 * u) = g (7 + 5 * u) := by have := go_tr (T := T) (t := t) (z := z) (g := g) (i := i) (w := 3) hu (by omega); rw [show 4 + 5 * u + 3 = 7 + 5 * u by omega] at this; exact this
  unfold md_gn
  rw [e0, e1, e2, e3]
theorem go_sh {T : Nat} {t z : Nat → Nat} {g : Nat → Int32} {i u : Nat} {m x : Int32} (hu : u < 4) : md_sh (md_go T t z g i) u m x = md_sh g u m x := by
  have e0 : md_go T t z g i (4 + 5 * u) = g (4 + 5 * u) := go_tr (w := 0) hu (by omega)
  have e1 : md_go T t z g i (5 + 5 * u) = g (5 + 5 * u) := by have := go_tr (T := T) (t := t) (z := z) (g := g) (i := i) (w := 1) hu (by omega); rw [show 4 + 5 * u + 1 = 5 + 5 * u by omega] at this; exact this
  have e2 : md_go T t z g i (6 + 5 * u) = g (6 + 5 * u) := by have := go_tr (T := T) (t := t) (z := z) (g := g) (i := i) (w := 2) hu (by omega); rw [show 4 + 5 * u + 2 = 6 + 5 * u by omega] at this; exact this
  have e3 : md_go T t z g i (7 + 5 * u) = g (7 + 5 * u) := by have := go_tr (T := T) (t := t) (z := z) (g := g) (i := i) (w := 3) hu (by omega); rw [show 4 + 5 * u + 3 = 7 + 5 * u by omega] at this; exact this
  unfold md_sh
  rw [e0, e1, e2, e3]
theorem nI_ne4 {z : Nat} (h : z < 4) : ¬ nI z = -4 := (by decide +kernel : ∀ z : Fin 4, ¬ nI z.val = -4) ⟨z, h⟩
/-- a ticket is in on day i -/
def inAt (t : Nat → Nat) (g : Nat → Int32) (i u : Nat) : Bool := decide (g (8 + 5 * u) = -4) && pm_alln (fun j => decide (t j ≠ u)) i
theorem go_dr {T : Nat} {t z : Nat → Nat} {g : Nat → Int32} {u : Nat} (hu : u < 4) : ∀ {i : Nat}, (∀ j, j < i → t j < 4 ∧ z j < 4) → (decide (md_go T t z g i (8 + 5 * u) = -4) = inAt t g i u)
  | 0, _ => by
    unfold inAt
    rw [md_go, pm_alln, Bool.and_true]
  | i + 1, h => by
    have ih := go_dr (T := T) (t := t) (z := z) (g := g) hu (i := i) (fun j hj => h j (by omega))
    have hi := h i (by omega)
    unfold inAt at ih ⊢
    rw [md_go, pm_alln, ← Bool.and_assoc, ← ih]
    unfold md_draw
    rw [if_neg (by omega), if_neg (by omega)]
    by_cases e : t i = u
    · rw [if_pos (by omega), decide_eq_false (nI_ne4 hi.2)]
      simp [e]
    · rw [if_neg (by omega)]
      simp [e]
theorem go_drew {T : Nat} {t z : Nat → Nat} {g : Nat → Int32} {j : Nat} (ht : ∀ a b, a < b → b ≤ j → t a ≠ t b) : ∀ {i : Nat}, j < i → (∀ a, a < i → t a < 4 ∧ z a < 4) → (∀ b, b < i → j < b → t b ≠ t j) → md_go T t z g i (8 + 5 * t j) = nI (z j)
  | i + 1, hj, h4, hne => by
    have hi := h4 i (by omega)
    have hjj := h4 j hj
    rw [md_go]
    unfold md_draw
    rw [if_neg (by omega), if_neg (by omega)]
    by_cases e : j = i
    · subst e
      rw [if_pos rfl]
    · rw [if_neg (by have := hne i (by omega) (by omega); omega)]
      exact go_drew ht (i := i) (by omega) (fun a ha => h4 a (by omega)) (fun b hb hjb => hne b (by omega) hjb)
/-- what the days bring -/
def goD (T : Nat) (t : Nat → Nat) (g : Nat → Int32) (x : Int32) (i : Nat) : Int32 := pm_sumI (fun u => if inAt t g i u = true then md_gn g u x else 0) T
theorem go_val {T : Nat} {t z : Nat → Nat} {g : Nat → Int32} {x : Nat} (hT : T ≤ 4) (hx : x < 4) : ∀ {n : Nat}, (∀ j, j < n → t j < 4 ∧ z j < 4) → md_go T t z g n x = g x + pm_sumI (fun i => goD T t g (nI x) i + md_sh g (t i) (g (24 + z i)) (nI x)) n
  | 0, _ => by rw [md_go, pm_sumI, Int32.add_zero]
  | n + 1, h => by
    have hn := h n (by omega)
    rw [md_go, pm_sumI]
    unfold md_draw
    rw [if_pos hx]
    unfold md_day
    rw [if_pos hx, pm_acc_eq, go_val hT hx (n := n) (fun j hj => h j (by omega)), go_sh hn.1, go_am hn.2 (fun j hj => (h j (by omega)).1)]
    have e : pm_sumI (fun u => if md_go T t z g n (8 + 5 * u) = -4 then md_gn (md_go T t z g n) u (nI x) else 0) T = goD T t g (nI x) n := by
      unfold goD
      refine pm_sumI_congr (fun u hu => ?_)
      have hd := go_dr (T := T) (t := t) (z := z) (g := g) (show u < 4 by omega) (i := n) (fun j hj => h j (by omega))
      rw [go_gn (show u < 4 by omega), ← hd]
      by_cases q : md_go T t z g n (8 + 5 * u) = -4
      · rw [if_pos q, if_pos (decide_eq_true q)]
      · rw [if_neg q, if_neg (by rw [decide_eq_false q]; decide)]
    rw [e, Int32.add_assoc, Int32.add_assoc]
theorem goD_step {T : Nat} {t : Nat → Nat} {g : Nat → Int32} {x : Int32} {i : Nat} (ht : t i < T) (hin : inAt t g i (t i) = true) : goD T t g x (i + 1) = goD T t g x i - md_gn g (t i) x := by
  unfold goD
  have e : ∀ u, inAt t g (i + 1) u = (inAt t g i u && decide (t i ≠ u)) := by
    intro u
    unfold inAt
    rw [pm_alln, Bool.and_assoc]
  simp only [e]
  exact sum_minus ht hin
theorem days_sum {n : Nat} {D F S : Nat → Int32} (hn : n ≤ 4) (h0 : D 0 = pm_sumI F n) (hs : ∀ i, i < n → D (i + 1) = D i - F i) : pm_sumI (fun i => D i + S i) n = pm_sumI (fun i => (nI i + 1) * F i) n + pm_sumI S n := by
  have n0 : nI 0 = 0 := by decide
  have n1 : nI 1 = 1 := by decide
  have n2 : nI 2 = 2 := by decide
  have n3 : nI 3 = 3 := by decide
  rcases (show n = 0 ∨ n = 1 ∨ n = 2 ∨ n = 3 ∨ n = 4 by omega) with rfl | rfl | rfl | rfl | rfl
  · simp only [pm_sumI]
    grind
  · simp only [pm_sumI] at h0 ⊢
    rw [h0, n0]
    grind
  · have h1 := hs 0 (by omega)
    simp only [pm_sumI, Nat.zero_add] at h0 h1 ⊢
    rw [h1, h0, n0, n1]
    grind
  · have h1 := hs 0 (by omega)
    have h2 := hs 1 (by omega)
    simp only [pm_sumI, Nat.zero_add, Nat.reduceAdd] at h0 h1 h2 ⊢
    rw [h2, h1, h0, n0, n1, n2]
    grind
  · have h1 := hs 0 (by omega)
    have h2 := hs 1 (by omega)
    have h3 := hs 2 (by omega)
    simp only [pm_sumI, Nat.zero_add, Nat.reduceAdd] at h0 h1 h2 h3 ⊢
    rw [h3, h2, h1, h0, n0, n1, n2, n3]
    grind
/-- a way's end -/
theorem way_end {f : Nat → Int32} {P T n : Nat} {s q : Nat → Nat} {x : Nat} (hv : wv f P T) (hn : (aL f T).length = n) (hx : x < 4) (hs : ∀ i, i < n → s i < n) (hq : ∀ i, i < n → q i < n) (hinj : ∀ i j, i < n → j < n → s i = s j → i = j) (hp : ((List.range n).map s).Perm (List.range n)) : md_go T (fun i => (aL f T).getD (s i) 0) (fun i => (aP f T).getD (q i) 0) f n x = f x + (pm_sumI (fun i => (nI i + 1) * aF f T (nI x) (s i)) n + pm_sumI (fun i => aS f T (nI x) (s i) (q i)) n) := by
  have hT := hv.2.1
  have hl := hv.2.2.2.2.2.2.1
  have hn4 : n ≤ 4 := by have := aL_len (f := f) (T := T); omega
  have hnd : (aL f T).Nodup := List.Pairwise.filter _ List.nodup_range
  have hLi : ∀ i j, i < n → j < n → (aL f T).getD i 0 = (aL f T).getD j 0 → i = j := by
    intro i j hi hj h
    rw [List.getD_eq_getElem?_getD, List.getD_eq_getElem?_getD, List.getElem?_eq_getElem (by omega), List.getElem?_eq_getElem (by omega)] at h
    exact (List.getElem_inj hnd).mp h
  generalize ht : (fun i => (aL f T).getD (s i) 0) = t
  generalize hz : (fun i => (aP f T).getD (q i) 0) = z
  have hti : ∀ i, t i = (aL f T).getD (s i) 0 := fun i => by rw [← ht]
  have hzi : ∀ i, z i = (aP f T).getD (q i) 0 := fun i => by rw [← hz]
  rw [go_val hT hx (fun j hj => ⟨by have := (aL_lt (show s j < (aL f T).length by have := hs j hj; omega)).1; rw [hti]; omega, by have := (aP_lt (show q j < (aP f T).length by have := hq j hj; omega)).1; rw [hzi]; omega⟩)]
  congr 1
  have hin : ∀ i, i < n → inAt t f i (t i) = true := by
    intro i hi
    unfold inAt
    rw [Bool.and_eq_true, pm_alln_iff]
    refine ⟨decide_eq_true ?_, fun j hj => decide_eq_true ?_⟩
    · rw [hti]
      exact (aL_lt (by have := hs i hi; omega)).2
    · intro e
      rw [hti, hti] at e
      have := hinj j i (by omega) hi (hLi _ _ (hs j (by omega)) (hs i hi) e)
      omega
  have hD0 : goD T t f (nI x) 0 = pm_sumI (fun j => aF f T (nI x) (s j)) n := by
    unfold goD
    have e : ∀ u, inAt t f 0 u = decide (f (8 + 5 * u) = -4) := fun u => by unfold inAt; rw [pm_alln, Bool.and_true]
    simp only [e]
    rw [sum_filter (fun u => decide (f (8 + 5 * u) = -4)) (fun u => md_gn f u (nI x)) T, lsum_getD]
    show pm_sumI (fun j => md_gn f ((aL f T).getD j 0) (nI x)) (aL f T).length = _
    rw [hn]
    exact (sum_perm (h := fun j => md_gn f ((aL f T).getD j 0) (nI x)) hp).symm
  have hDs : ∀ i, i < n → goD T t f (nI x) (i + 1) = goD T t f (nI x) i - aF f T (nI x) (s i) := by
    intro i hi
    rw [goD_step (by rw [hti]; exact (aL_lt (by have := hs i hi; omega)).1) (hin i hi)]
    rw [hti]
    rfl
  have hsh : ∀ i, md_sh f (t i) (f (24 + z i)) (nI x) = aS f T (nI x) (s i) (q i) := fun i => by rw [hti, hzi]; rfl
  simp only [hsh]
  exact days_sum hn4 hD0 hDs
