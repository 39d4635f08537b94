/-! the tables of orders, and how the reference's ways go with the class's rows -/
def RET : List (List Nat) := [[0, 1, 2, 3], [1, 0, 2, 3], [0, 2, 1, 3], [1, 2, 0, 3], [2, 0, 1, 3], [2, 1, 0, 3], [0, 1, 3, 2], [0, 2, 3, 1], [0, 3, 1, 2], [0, 3, 2, 1], [1, 0, 3, 2], [1, 2, 3, 0], [1, 3, 0, 2], [1, 3, 2, 0], [2, 0, 3, 1], [2, 1, 3, 0], [2, 3, 0, 1], [2, 3, 1, 0], [3, 0, 1, 2], [3, 0, 2, 1], [3, 1, 0, 2], [3, 1, 2, 0], [3, 2, 0, 1], [3, 2, 1, 0]]
def ORT : Nat → List (List Nat)
  | 0 => [[]]
  | 1 => [[0]]
  | 2 => [[0, 1], [1, 0]]
  | 3 => [[0, 1, 2], [0, 2, 1], [1, 0, 2], [1, 2, 0], [2, 0, 1], [2, 1, 0]]
  | 4 => [[0, 1, 2, 3], [0, 1, 3, 2], [0, 2, 1, 3], [0, 2, 3, 1], [0, 3, 1, 2], [0, 3, 2, 1], [1, 0, 2, 3], [1, 0, 3, 2], [1, 2, 0, 3], [1, 2, 3, 0], [1, 3, 0, 2], [1, 3, 2, 0], [2, 0, 1, 3], [2, 0, 3, 1], [2, 1, 0, 3], [2, 1, 3, 0], [2, 3, 0, 1], [2, 3, 1, 0], [3, 0, 1, 2], [3, 0, 2, 1], [3, 1, 0, 2], [3, 1, 2, 0], [3, 2, 0, 1], [3, 2, 1, 0]]
  | _ => []
def R1T : Nat → List Nat
  | 0 => [0]
  | 1 => [0]
  | 2 => [0, 1]
  | 3 => [0, 2, 1, 3, 4, 5]
  | 4 => [0, 6, 2, 7, 8, 9, 1, 10, 3, 11, 12, 13, 4, 14, 5, 15, 16, 17, 18, 19, 20, 21, 22, 23]
  | _ => []
def R2T : Nat → List (List Nat)
  | 0 => [[0]]
  | 1 => [[0]]
  | 2 => [[0, 1], [1, 0]]
  | 3 => [[0, 2, 1, 3, 4, 5], [2, 0, 3, 1, 5, 4], [1, 4, 0, 5, 2, 3], [4, 1, 5, 0, 3, 2], [3, 5, 2, 4, 0, 1], [5, 3, 4, 2, 1, 0]]
  | 4 => [[0, 6, 2, 7, 8, 9, 1, 10, 3, 11, 12, 13, 4, 14, 5, 15, 16, 17, 18, 19, 20, 21, 22, 23], [6, 0, 7, 2, 9, 8, 10, 1, 11, 3, 13, 12, 14, 4, 15, 5, 17, 16, 19, 18, 21, 20, 23, 22], [2, 8, 0, 9, 6, 7, 3, 12, 1, 13, 10, 11, 5, 16, 4, 17, 14, 15, 20, 22, 18, 23, 19, 21], [8, 2, 9, 0, 7, 6, 12, 3, 13, 1, 11, 10, 16, 5, 17, 4, 15, 14, 22, 20, 23, 18, 21, 19], [7, 9, 6, 8, 0, 2, 11, 13, 10, 12, 1, 3, 15, 17, 14, 16, 4, 5, 21, 23, 19, 22, 18, 20], [9, 7, 8, 6, 2, 0, 13, 11, 12, 10, 3, 1, 17, 15, 16, 14, 5, 4, 23, 21, 22, 19, 20, 18], [1, 10, 4, 14, 18, 19, 0, 6, 5, 15, 20, 21, 2, 7, 3, 11, 22, 23, 8, 9, 12, 13, 16, 17], [10, 1, 14, 4, 19, 18, 6, 0, 15, 5, 21, 20, 7, 2, 11, 3, 23, 22, 9, 8, 13, 12, 17, 16], [4, 18, 1, 19, 10, 14, 5, 20, 0, 21, 6, 15, 3, 22, 2, 23, 7, 11, 12, 16, 8, 17, 9, 13], [18, 4, 19, 1, 14, 10, 20, 5, 21, 0, 15, 6, 22, 3, 23, 2, 11, 7, 16, 12, 17, 8, 13, 9], [14, 19, 10, 18, 1, 4, 15, 21, 6, 20, 0, 5, 11, 23, 7, 22, 2, 3, 13, 17, 9, 16, 8, 12], [19, 14, 18, 10, 4, 1, 21, 15, 20, 6, 5, 0, 23, 11, 22, 7, 3, 2, 17, 13, 16, 9, 12, 8], [3, 12, 5, 16, 20, 22, 2, 8, 4, 17, 18, 23, 0, 9, 1, 13, 19, 21, 6, 7, 10, 11, 14, 15], [12, 3, 16, 5, 22, 20, 8, 2, 17, 4, 23, 18, 9, 0, 13, 1, 21, 19, 7, 6, 11, 10, 15, 14], [5, 20, 3, 22, 12, 16, 4, 18, 2, 23, 8, 17, 1, 19, 0, 21, 9, 13, 10, 14, 6, 15, 7, 11], [20, 5, 22, 3, 16, 12, 18, 4, 23, 2, 17, 8, 19, 1, 21, 0, 13, 9, 14, 10, 15, 6, 11, 7], [16, 22, 12, 20, 3, 5, 17, 23, 8, 18, 2, 4, 13, 21, 9, 19, 0, 1, 11, 15, 7, 14, 6, 10], [22, 16, 20, 12, 5, 3, 23, 17, 18, 8, 4, 2, 21, 13, 19, 9, 1, 0, 15, 11, 14, 7, 10, 6], [11, 13, 15, 17, 21, 23, 7, 9, 14, 16, 19, 22, 6, 8, 10, 12, 18, 20, 0, 2, 1, 3, 4, 5], [13, 11, 17, 15, 23, 21, 9, 7, 16, 14, 22, 19, 8, 6, 12, 10, 20, 18, 2, 0, 3, 1, 5, 4], [15, 21, 11, 23, 13, 17, 14, 19, 7, 22, 9, 16, 10, 18, 6, 20, 8, 12, 1, 4, 0, 5, 2, 3], [21, 15, 23, 11, 17, 13, 19, 14, 22, 7, 16, 9, 18, 10, 20, 6, 12, 8, 4, 1, 5, 0, 3, 2], [17, 23, 13, 21, 11, 15, 16, 22, 9, 19, 7, 14, 12, 20, 8, 18, 6, 10, 3, 5, 2, 4, 0, 1], [23, 17, 21, 13, 15, 11, 22, 16, 19, 9, 14, 7, 20, 12, 18, 8, 10, 6, 5, 3, 4, 2, 1, 0]]
  | _ => []
def ro (row i : Nat) : Nat := (RET.getD row []).getD i 0
def oo (n r i : Nat) : Nat := ((ORT n).getD r []).getD i 0
def rA (n a : Nat) : Nat := (R1T n).getD a 0
def rB (n a b : Nat) : Nat := ((R2T n).getD a []).getD b 0
theorem ro_eq {row i : Nat} (hr : row < 24) (hi : i < 4) : re_ord row i = ro row i := (by decide +kernel : ∀ row : Fin 24, ∀ i : Fin 4, re_ord row.val i.val = ro row.val i.val) ⟨row, hr⟩ ⟨i, hi⟩
theorem OL_tab : ∀ n : Fin 5, OL n.val (n.val ^ n.val) = (ORT n.val).map (fun l => l.foldl (fun a d => a * n.val + d) 0) := by decide +kernel
theorem oo_eq {n r i : Nat} (hn : n ≤ 4) (hr : r < md_fact n) (hi : i < n) : OR n r i = oo n r i := by
  have h24 := (md_fact24 hn).1
  have : ∀ n : Fin 5, ∀ r : Fin 24, ∀ i : Fin 4, r.val < md_fact n.val → i.val < n.val → dg n.val (((ORT n.val).map (fun l => l.foldl (fun a d => a * n.val + d) 0)).getD r.val 0) i.val = oo n.val r.val i.val := by decide +kernel
  unfold OR
  rw [OL_tab ⟨n, by omega⟩]
  exact this ⟨n, by omega⟩ ⟨r, by omega⟩ ⟨i, by omega⟩ hr hi
theorem oo_lt {n r i : Nat} (hn : n ≤ 4) (hr : r < md_fact n) (hi : i < n) : oo n r i < n := by
  have h24 := (md_fact24 hn).1
  exact (by decide +kernel : ∀ n : Fin 5, ∀ r : Fin 24, ∀ i : Fin 4, r.val < md_fact n.val → i.val < n.val → oo n.val r.val i.val < n.val) ⟨n, by omega⟩ ⟨r, by omega⟩ ⟨i, by omega⟩ hr hi
theorem oo_inj {n r i j : Nat} (hn : n ≤ 4) (hr : r < md_fact n) (hi : i < n) (hj : j < n) (h : oo n r i = oo n r j) : i = j := by
  have h24 := (md_fact24 hn).1
  exact (by decide +kernel : ∀ n : Fin 5, ∀ r : Fin 24, ∀ i : Fin 4, ∀ j : Fin 4, r.val < md_fact n.val → i.val < n.val → j.val < n.val → oo n.val r.val i.val = oo n.val r.val j.val → i.val = j.val) ⟨n, by omega⟩ ⟨r, by omega⟩ ⟨i, by omega⟩ ⟨j, by omega⟩ hr hi hj h
theorem oo_perm {n r : Nat} (hn : n ≤ 4) (hr : r < md_fact n) : ((List.range n).map (oo n r)).Perm (List.range n) := by
  have h24 := (md_fact24 hn).1
  exact List.isPerm_iff.mp ((by decide +kernel : ∀ n : Fin 5, ∀ r : Fin 24, r.val < md_fact n.val → ((List.range n.val).map (oo n.val r.val)).isPerm (List.range n.val) = true) ⟨n, by omega⟩ ⟨r, by omega⟩ hr)
theorem rA_ok {n a : Nat} (hn : n ≤ 4) (ha : a < md_fact n) : rA n a < md_fact n ∧ ∀ i, i < n → ro (rA n a) i = oo n a i := by
  have h24 := (md_fact24 hn).1
  have := (by decide +kernel : ∀ n : Fin 5, ∀ a : Fin 24, a.val < md_fact n.val → rA n.val a.val < md_fact n.val ∧ ∀ i : Fin 4, i.val < n.val → ro (rA n.val a.val) i.val = oo n.val a.val i.val) ⟨n, by omega⟩ ⟨a, by omega⟩ ha
  exact ⟨this.1, fun i hi => this.2 ⟨i, by omega⟩ hi⟩
theorem rB_ok {n a b : Nat} (hn : n ≤ 4) (ha : a < md_fact n) (hb : b < md_fact n) : rB n a b < md_fact n ∧ ∀ i, i < n → ro (rB n a b) (oo n a i) = oo n b i := by
  have h24 := (md_fact24 hn).1
  have := (by decide +kernel : ∀ n : Fin 5, ∀ a : Fin 24, ∀ b : Fin 24, a.val < md_fact n.val → b.val < md_fact n.val → rB n.val a.val b.val < md_fact n.val ∧ ∀ i : Fin 4, i.val < n.val → ro (rB n.val a.val b.val) (oo n.val a.val i.val) = oo n.val b.val i.val) ⟨n, by omega⟩ ⟨a, by omega⟩ ⟨b, by omega⟩ ha hb
  exact ⟨this.1, fun i hi => this.2 ⟨i, by omega⟩ hi⟩
theorem rA_perm {n : Nat} (hn : n ≤ 4) : ((List.range (md_fact n)).map (rA n)).Perm (List.range (md_fact n)) := List.isPerm_iff.mp ((by decide +kernel : ∀ n : Fin 5, ((List.range (md_fact n.val)).map (rA n.val)).isPerm (List.range (md_fact n.val)) = true) ⟨n, by omega⟩)
theorem rB_perm {n a : Nat} (hn : n ≤ 4) (ha : a < md_fact n) : ((List.range (md_fact n)).map (rB n a)).Perm (List.range (md_fact n)) := by
  have h24 := (md_fact24 hn).1
  exact List.isPerm_iff.mp ((by decide +kernel : ∀ n : Fin 5, ∀ a : Fin 24, a.val < md_fact n.val → ((List.range (md_fact n.val)).map (rB n.val a.val)).isPerm (List.range (md_fact n.val)) = true) ⟨n, by omega⟩ ⟨a, by omega⟩ ha)
/-! sums over lists -/
def lsum (h : Nat → Int32) : List Nat → Int32
  | [] => 0
  | a :: l => h a + lsum h l
theorem lsum_app (h : Nat → Int32) : ∀ a b, lsum h (a ++ b) = lsum h a + lsum h b
  | [], b => by rw [List.nil_append, lsum, Int32.zero_add]
  | x :: a, b => by rw [List.cons_append, lsum, lsum, lsum_app h a b, Int32.add_assoc]
theorem lsum_perm {h : Nat → Int32} {a b : List Nat} (p : a.Perm b) : lsum h a = lsum h b := by
  induction p with
  | nil => rfl
  | cons x _ ih => rw [lsum, lsum, ih]
  | swap x y l => rw [lsum, lsum, lsum, lsum, ← Int32.add_assoc, ← Int32.add_assoc, Int32.add_comm (h y)]
  | trans _ _ ih1 ih2 => exact ih1.trans ih2
theorem lsum_map (h : Nat → Int32) (s : Nat → Nat) : ∀ l : List Nat, lsum h (l.map s) = lsum (fun i => h (s i)) l
  | [] => rfl
  | x :: l => by rw [List.map_cons, lsum, lsum, lsum_map h s l]
theorem lsum_range (h : Nat → Int32) : ∀ n, lsum h (List.range n) = pm_sumI h n
  | 0 => rfl
  | n + 1 => by
    rw [List.range_succ, lsum_app, lsum_range h n, pm_sumI, lsum, lsum, Int32.add_zero]
theorem sum_perm {h : Nat → Int32} {s : Nat → Nat} {n : Nat} (p : ((List.range n).map s).Perm (List.range n)) : pm_sumI (fun i => h (s i)) n = pm_sumI h n := by
  rw [← lsum_range, ← lsum_range, ← lsum_map, lsum_perm p]
theorem sumN_perm {h : Nat → Nat} {s : Nat → Nat} {n : Nat} (p : ((List.range n).map s).Perm (List.range n)) : pm_sumN (fun i => h (s i)) n = pm_sumN h n := by
  have e : ∀ (g : Nat → Nat) n, ((List.range n).map g).sum = pm_sumN g n := by
    intro g n
    induction n with
    | zero => rfl
    | succ n ih => rw [List.range_succ, List.map_append, List.sum_append_nat, ih, pm_sumN]; simp
  rw [← e, ← e]
  have := (p.map h).sum_nat
  rw [List.map_map] at this
  exact this
theorem cnt_sum (c : Nat → Bool) : ∀ n, pm_cnt1 c n = pm_sumN (fun i => if c i = true then 1 else 0) n
  | 0 => rfl
  | n + 1 => by rw [pm_cnt1, pm_sumN, cnt_sum c n]
theorem sum_filter (p : Nat → Bool) (g : Nat → Int32) : ∀ T, pm_sumI (fun u => if p u = true then g u else 0) T = lsum g (md_lst p T)
  | 0 => rfl
  | T + 1 => by
    rw [pm_sumI, md_lst_succ, sum_filter p g T]
    by_cases h : p T = true
    · rw [if_pos h, if_pos h, lsum_app, lsum, lsum, Int32.add_zero]
    · rw [if_neg h, if_neg h, Int32.add_zero]
theorem lsum_getD (g : Nat → Int32) (l : List Nat) : lsum g l = pm_sumI (fun j => g (l.getD j 0)) l.length := by
  have : (List.range l.length).map (fun j => l.getD j 0) = l := by
    apply List.ext_getElem
    · simp
    · intro i h1 h2
      simp [List.getD_eq_getElem?_getD, List.getElem?_eq_getElem h2]
  have h2 := lsum_map g (fun j => l.getD j 0) (List.range l.length)
  rw [this, lsum_range] at h2
  exact h2
theorem sum_minus {c : Nat → Bool} {g : Nat → Int32} {t : Nat} : ∀ {T : Nat}, t < T → c t = true → pm_sumI (fun u => if (c u && decide (t ≠ u)) = true then g u else 0) T = pm_sumI (fun u => if c u = true then g u else 0) T - g t
  | T + 1, ht, hc => by
    rw [pm_sumI, pm_sumI]
    by_cases h : t = T
    · subst h
      have e : pm_sumI (fun u => if (c u && decide (t ≠ u)) = true then g u else 0) t = pm_sumI (fun u => if c u = true then g u else 0) t := pm_sumI_congr (fun i hi => by
        have : decide (t ≠ i) = true := decide_eq_true (by omega)
        rw [this, Bool.and_true])
      rw [e, if_pos hc]
      simp
    · rw [sum_minus (T := T) (by omega) hc, decide_eq_true h, Bool.and_true, Int32.sub_eq_add_neg, Int32.sub_eq_add_neg, Int32.add_assoc, Int32.add_assoc, Int32.add_comm (-g t)]
/-- all ways, row by row -/
theorem sum_ways {h : Nat → Nat → Nat} {N : Nat} (h0 : 0 < N) : ∀ K, pm_sumN (fun w => h (w / N) (w % N)) (K * N) = pm_sumN (fun a => pm_sumN (h a) N) K
  | 0 => by rw [Nat.zero_mul]; rfl
  | K + 1 => by
    have step : ∀ j, j ≤ N → pm_sumN (fun w => h (w / N) (w % N)) (K * N + j) = pm_sumN (fun w => h (w / N) (w % N)) (K * N) + pm_sumN (h K) j := by
      intro j
      induction j with
      | zero => intro _; rw [Nat.add_zero, pm_sumN, Nat.add_zero]
      | succ j ih =>
        intro hj
        rw [← Nat.add_assoc, pm_sumN, ih (by omega), pm_sumN, Nat.add_assoc]
        congr 2
        have e1 : (K * N + j) / N = K := by
          rw [Nat.mul_comm, Nat.mul_add_div h0, Nat.div_eq_of_lt (by omega), Nat.add_zero]
        have e2 : (K * N + j) % N = j := by
          rw [Nat.mul_comm, Nat.mul_add_mod, Nat.mod_eq_of_lt (by omega)]
        rw [e1, e2]
    rw [Nat.succ_mul, step N (Nat.le_refl _), sum_ways h0 K, pm_sumN]
theorem sum_rows {h : Nat → Nat → Nat} {n : Nat} (hn : n ≤ 4) : pm_sumN (fun w => h (rA n (w / md_fact n)) (rB n (w / md_fact n) (w % md_fact n))) (md_fact n * md_fact n) = pm_sumN (fun o => pm_sumN (h o) (md_fact n)) (md_fact n) := by
  have h0 := (md_fact24 hn).2
  have := sum_ways (h := fun a b => h (rA n a) (rB n a b)) (show 0 < md_fact n by omega) (md_fact n)
  rw [this]
  have e : pm_sumN (fun a => pm_sumN (fun b => h (rA n a) (rB n a b)) (md_fact n)) (md_fact n) = pm_sumN (fun a => pm_sumN (h (rA n a)) (md_fact n)) (md_fact n) := pm_sumN_congr (fun a ha => sumN_perm (h := h (rA n a)) (rB_perm hn ha))
  rw [e]
  exact sumN_perm (h := fun o => pm_sumN (h o) (md_fact n)) (rA_perm hn)
