/-! bounds, and the sums as integers -/
def bd (x : Int32) (k : Nat) : Prop := x.toInt.natAbs ≤ k
theorem bd_add {x y : Int32} {a b : Nat} (hx : bd x a) (hy : bd y b) (h : a + b < 2 ^ 31) : bd (x + y) (a + b) ∧ (x + y).toInt = x.toInt + y.toInt := by
  unfold bd at *
  have e : (x + y).toInt = x.toInt + y.toInt := by
    rw [Int32.toInt_add, Int.bmod_eq_of_le (by omega) (by omega)]
  rw [e]
  exact ⟨by omega, rfl⟩
theorem bd_neg {x : Int32} {a : Nat} (hx : bd x a) (h : a < 2 ^ 31) : bd (-x) a := by
  unfold bd at *
  rw [Int32.toInt_neg, Int.bmod_eq_of_le (by omega) (by omega)]
  omega
theorem bd_0 (a : Nat) : bd 0 a := by
  unfold bd
  have : (0 : Int32).toInt = 0 := by decide
  omega
theorem bd_nI {n a : Nat} (h : n ≤ a) (ha : a < 2 ^ 31) : bd (nI n) a := by
  unfold bd
  rw [nI_toInt (by omega)]
  omega
theorem bd_ite {x : Int32} {a : Nat} (c : Prop) [Decidable c] (hx : bd x a) : bd (if c then x else 0) a := by
  by_cases h : c
  · rw [if_pos h]
    exact hx
  · rw [if_neg h]
    exact bd_0 a
theorem bd_mono {x : Int32} {a b : Nat} (hx : bd x a) (h : a ≤ b) : bd x b := Nat.le_trans hx h
theorem five_fe {fe : Nat} (h : fe ≤ 9) : 5 * nI fe = nI (5 * fe) := pk_mul 5 fe
theorem gn_bd {f : Nat → Int32} {P T u : Nat} (hv : wv f P T) (hu : u < T) (x : Int32) : bd (md_gn f u x) 18 := by
  obtain ⟨kd, a, b, fe, h1, h2, h3, h4, h5, h6, h7, h8⟩ := hv.2.2.1 u hu
  have hfe : bd (f (7 + 5 * u)) 9 := by rw [h8]; exact bd_nI h4 (by omega)
  have hv9 : bd (if f (4 + 5 * u) = 1 then f (7 + 5 * u) else if f (4 + 5 * u) = 3 then -f (7 + 5 * u) else 0) 9 := by
    by_cases q : f (4 + 5 * u) = 1
    · rw [if_pos q]
      exact hfe
    · rw [if_neg q]
      exact bd_ite _ (bd_neg hfe (by omega))
  unfold md_gn
  exact (bd_add (bd_ite _ hv9) (bd_ite _ (bd_neg hv9 (by omega))) (by omega)).1
theorem sh_bd {f : Nat → Int32} {P T t am : Nat} (hv : wv f P T) (ht : t < T) (ham : am ≤ 99) (x : Int32) : bd (md_sh f t (nI am) x) 189 := by
  obtain ⟨kd, a, b, fe, h1, h2, h3, h4, h5, h6, h7, h8⟩ := hv.2.2.1 t ht
  have hm : bd (nI am) 99 := bd_nI ham (by omega)
  have hins : bd (if nI am = 0 then 5 * f (7 + 5 * t) else 0) 45 := by
    refine bd_ite _ ?_
    rw [h8, five_fe h4]
    exact bd_nI (by omega) (by omega)
  have hhalf : nI am / 2 = nI (am / 2) := pk_div (d := 2) (by omega) (by omega) (by omega)
  have hrest : nI am - nI (am / 2) = nI (am - am / 2) := pk_sub (by omega)
  unfold md_sh
  rw [h5]
  rcases (show kd = 0 ∨ kd = 1 ∨ kd = 2 ∨ kd = 3 by omega) with rfl | rfl | rfl | rfl
  · rw [if_neg (show ¬ nI 0 = 1 by decide), if_neg (show ¬ nI 0 = 2 by decide), if_neg (show ¬ nI 0 = 3 by decide), if_neg (show ¬ nI 0 = 1 by decide), if_neg (show ¬ nI 0 = 2 by decide), if_neg (show ¬ nI 0 = 3 by decide)]
    exact bd_mono (bd_add (bd_ite _ hm) (bd_ite _ (bd_0 0)) (by omega)).1 (by omega)
  · rw [if_pos (show nI 1 = 1 by decide), if_pos (show nI 1 = 1 by decide)]
    exact bd_mono (bd_add (bd_ite _ (bd_0 0)) (bd_ite _ hm) (by omega)).1 (by omega)
  · rw [if_neg (show ¬ nI 2 = 1 by decide), if_pos (show nI 2 = 2 by decide), if_neg (show ¬ nI 2 = 1 by decide), if_pos (show nI 2 = 2 by decide), hhalf, hrest]
    exact bd_mono (bd_add (bd_ite _ (bd_nI (a := 50) (by omega) (by omega))) (bd_ite _ (bd_nI (a := 49) (by omega) (by omega))) (by omega)).1 (by omega)
  · rw [if_neg (show ¬ nI 3 = 1 by decide), if_neg (show ¬ nI 3 = 2 by decide), if_pos (show nI 3 = 3 by decide), if_neg (show ¬ nI 3 = 1 by decide), if_neg (show ¬ nI 3 = 2 by decide), if_pos (show nI 3 = 3 by decide)]
    exact bd_mono (bd_add (bd_ite _ (bd_add hm hins (by omega)).1) (bd_ite _ (bd_neg hins (by omega))) (by omega)).1 (by omega)
-- sums of integers
theorem sumZ_congr {g h : Nat → Int} : ∀ {n : Nat}, (∀ i, i < n → g i = h i) → sumZ g n = sumZ h n
  | 0, _ => rfl
  | n + 1, hh => by rw [sumZ, sumZ, sumZ_congr (n := n) (fun i hi => hh i (by omega)), hh n (by omega)]
theorem sumZ_add (g h : Nat → Int) : ∀ n, sumZ (fun i => g i + h i) n = sumZ g n + sumZ h n
  | 0 => rfl
  | n + 1 => by rw [sumZ, sumZ, sumZ, sumZ_add g h n]; omega
theorem sumZ_mul (c : Int) (g : Nat → Int) : ∀ n, sumZ (fun i => c * g i) n = c * sumZ g n
  | 0 => by rw [sumZ, sumZ, Int.mul_zero]
  | n + 1 => by rw [sumZ, sumZ, sumZ_mul c g n, Int.mul_add]
theorem sumZ_const (c : Int) : ∀ n : Nat, sumZ (fun _ => c) n = n * c
  | 0 => by rw [sumZ]; simp
  | n + 1 => by
    rw [sumZ, sumZ_const c n, Int.natCast_add, Int.add_mul]
    simp
theorem sumZ_bd {g : Nat → Int} {K : Nat} : ∀ {n : Nat}, (∀ i, i < n → (g i).natAbs ≤ K) → (sumZ g n).natAbs ≤ n * K
  | 0, _ => by rw [sumZ]; simp
  | n + 1, h => by
    have h1 := sumZ_bd (n := n) (fun i hi => h i (by omega))
    have h2 := h n (by omega)
    rw [sumZ, Nat.succ_mul]
    omega
theorem sumI_of {g : Nat → Int32} {z : Nat → Int} : ∀ {n : Nat}, (∀ i, i < n → g i = Int32.ofInt (z i)) → pm_sumI g n = Int32.ofInt (sumZ z n)
  | 0, _ => by rw [pm_sumI, sumZ]; decide
  | n + 1, h => by rw [pm_sumI, sumZ, sumI_of (n := n) (fun i hi => h i (by omega)), h n (by omega), Int32.ofInt_add]
theorem nI_oI (n : Nat) : nI n = Int32.ofInt n := (Int32.ofInt_eq_ofNat).symm
theorem oI (x : Int32) : x = Int32.ofInt x.toInt := (Int32.ofInt_toInt x).symm
def zF (f : Nat → Int32) (T p i : Nat) : Int := (aF f T (nI p) i).toInt
def zS (f : Nat → Int32) (T p i j : Nat) : Int := (aS f T (nI p) i j).toInt
def zA (f : Nat → Int32) (T p r : Nat) : Int := sumZ (fun i => ((i : Int) + 1) * zF f T p (re_ord r i)) (aL f T).length
def zB (f : Nat → Int32) (T p r : Nat) : Int := sumZ (fun i => zS f T p i (re_ord r i)) (aL f T).length
def zE (f : Nat → Int32) (T p o q : Nat) : Int := (f p).toInt + (zA f T p o + zB f T p q)
theorem aA_z (f : Nat → Int32) (T p r : Nat) : aA f T (nI p) r = Int32.ofInt (zA f T p r) := by
  unfold aA zA
  refine sumI_of (fun i _ => ?_)
  have h1 : nI i + 1 = Int32.ofInt ((i : Int) + 1) := by rw [nI_1, nI_oI, Int.natCast_add]; rfl
  rw [h1, Int32.ofInt_mul]
  unfold zF
  rw [Int32.ofInt_toInt]
theorem aB_z (f : Nat → Int32) (T p r : Nat) : aB f T (nI p) r = Int32.ofInt (zB f T p r) := by
  unfold aB zB
  exact sumI_of (fun i _ => oI _)
theorem eW_z (f : Nat → Int32) (T p o q : Nat) : eW f T p o q = Int32.ofInt (zE f T p o q) := by
  unfold eW zE
  rw [aA_z, aB_z, Int32.ofInt_add, Int32.ofInt_add, Int32.ofInt_toInt]
theorem zF_bd {f : Nat → Int32} {P T p i : Nat} (hv : wv f P T) (hi : i < (aL f T).length) : (zF f T p i).natAbs ≤ 18 := gn_bd hv (aL_lt hi).1 _
theorem zS_bd {f : Nat → Int32} {P T p i j : Nat} (hv : wv f P T) (hi : i < (aL f T).length) (hj : j < (aL f T).length) : (zS f T p i j).natAbs ≤ 189 := by
  have hj' := aP_lt (f := f) (T := T) (a := j) (by rw [← hv.2.2.2.2.2.2.1]; exact hj)
  obtain ⟨am, h1, h2⟩ := hv.2.2.2.1 _ hj'.1
  unfold zS aS
  rw [h2]
  exact sh_bd hv (aL_lt hi).1 h1 _
theorem zA_bd {f : Nat → Int32} {P T p r : Nat} (hv : wv f P T) (hr : r < md_fact (aL f T).length) : (zA f T p r).natAbs ≤ 288 := by
  have hn := (aN hv).1
  refine Nat.le_trans (sumZ_bd (K := 72) (fun i hi => ?_)) (by omega)
  rw [Int.natAbs_mul]
  have h1 := zF_bd (p := p) hv (re_ord_lt hn hr hi).1
  have h2 : ((i : Int) + 1).natAbs ≤ 4 := by omega
  exact Nat.le_trans (Nat.mul_le_mul h2 h1) (by decide)
theorem zB_bd {f : Nat → Int32} {P T p r : Nat} (hv : wv f P T) (hr : r < md_fact (aL f T).length) : (zB f T p r).natAbs ≤ 756 := by
  have hn := (aN hv).1
  refine Nat.le_trans (sumZ_bd (K := 189) (fun i hi => ?_)) (by omega)
  exact zS_bd hv hi (re_ord_lt hn hr hi).1
theorem purse_bd {f : Nat → Int32} {P T p : Nat} (hv : wv f P T) (hp : p < P) : (f p).toInt.natAbs ≤ 1299 := by
  have h1 := hv.2.2.2.2.2.2.2.2 p hp
  have h2 := hv.2.1
  omega
theorem zE_bd {f : Nat → Int32} {P T p o q : Nat} (hv : wv f P T) (hp : p < P) (ho : o < md_fact (aL f T).length) (hq : q < md_fact (aL f T).length) : (zE f T p o q).natAbs ≤ 2343 := by
  have h1 := zA_bd (p := p) hv ho
  have h2 := zB_bd (p := p) hv hq
  have h3 := purse_bd hv hp
  unfold zE
  omega
theorem eW_toInt {f : Nat → Int32} {P T p o q : Nat} (hv : wv f P T) (hp : p < P) (ho : o < md_fact (aL f T).length) (hq : q < md_fact (aL f T).length) : (eW f T p o q).toInt = zE f T p o q := by
  have h := zE_bd hv hp ho hq
  rw [eW_z, Int32.toInt_ofInt_of_le (by omega) (by omega)]
theorem aA_toInt {f : Nat → Int32} {P T p r : Nat} (hv : wv f P T) (hr : r < md_fact (aL f T).length) : (aA f T (nI p) r).toInt = zA f T p r := by
  have h := zA_bd (p := p) hv hr
  rw [aA_z, Int32.toInt_ofInt_of_le (by omega) (by omega)]
theorem aB_toInt {f : Nat → Int32} {P T p r : Nat} (hv : wv f P T) (hr : r < md_fact (aL f T).length) : (aB f T (nI p) r).toInt = zB f T p r := by
  have h := zB_bd (p := p) hv hr
  rw [aB_z, Int32.toInt_ofInt_of_le (by omega) (by omega)]
/-- all ways, row by row -/
theorem sumZ_ways {h : Nat → Nat → Int} {N : Nat} (h0 : 0 < N) : ∀ K, sumZ (fun w => h (w / N) (w % N)) (K * N) = sumZ (fun a => sumZ (h a) N) K
  | 0 => by rw [Nat.zero_mul]; rfl
  | K + 1 => by
    have step : ∀ j, j ≤ N → sumZ (fun w => h (w / N) (w % N)) (K * N + j) = sumZ (fun w => h (w / N) (w % N)) (K * N) + sumZ (h K) j := by
      intro j
      induction j with
      | zero => intro _; rw [Nat.add_zero, sumZ, Int.add_zero]
      | succ j ih =>
        intro hj
        rw [← Nat.add_assoc, sumZ, ih (by omega), sumZ, Int.add_assoc]
        congr 2
        have e1 : (K * N + j) / N = K := by
          rw [Nat.mul_comm, Nat.mul_add_div h0, Nat.div_eq_of_lt (by omega), Nat.add_zero]
        have e2 : (K * N + j) % N = j := by
          rw [Nat.mul_comm, Nat.mul_add_mod, Nat.mod_eq_of_lt (by omega)]
        rw [e1, e2]
    rw [Nat.succ_mul, step N (Nat.le_refl _), sumZ_ways h0 K, sumZ]
def lsumZ (h : Nat → Int) : List Nat → Int
  | [] => 0
  | a :: l => h a + lsumZ h l
theorem lsumZ_app (h : Nat → Int) : ∀ a b, lsumZ h (a ++ b) = lsumZ h a + lsumZ h b
  | [], b => by rw [List.nil_append, lsumZ, Int.zero_add]
  | x :: a, b => by rw [List.cons_append, lsumZ, lsumZ, lsumZ_app h a b, Int.add_assoc]
theorem lsumZ_perm {h : Nat → Int} {a b : List Nat} (p : a.Perm b) : lsumZ h a = lsumZ h b := by
  induction p with
  | nil => rfl
  | cons x _ ih => rw [lsumZ, lsumZ, ih]
  | swap x y l => rw [lsumZ, lsumZ, lsumZ, lsumZ, ← Int.add_assoc, ← Int.add_assoc, Int.add_comm (h y)]
  | trans _ _ ih1 ih2 => exact ih1.trans ih2
theorem lsumZ_map (h : Nat → Int) (s : Nat → Nat) : ∀ l : List Nat, lsumZ h (l.map s) = lsumZ (fun i => h (s i)) l
  | [] => rfl
  | x :: l => by rw [List.map_cons, lsumZ, lsumZ, lsumZ_map h s l]
theorem lsumZ_range (h : Nat → Int) : ∀ n, lsumZ h (List.range n) = sumZ h n
  | 0 => rfl
  | n + 1 => by
    rw [List.range_succ, lsumZ_app, lsumZ_range h n, sumZ, lsumZ, lsumZ, Int.add_zero]
theorem sumZ_perm {h : Nat → Int} {s : Nat → Nat} {n : Nat} (p : ((List.range n).map s).Perm (List.range n)) : sumZ (fun i => h (s i)) n = sumZ h n := by
  rw [← lsumZ_range, ← lsumZ_range, ← lsumZ_map, lsumZ_perm p]
theorem sumZ_rows {h : Nat → Nat → Int} {n : Nat} (hn : n ≤ 4) : sumZ (fun w => h (rA n (w / md_fact n)) (rB n (w / md_fact n) (w % md_fact n))) (md_fact n * md_fact n) = sumZ (fun o => sumZ (h o) (md_fact n)) (md_fact n) := by
  have h0 := (md_fact24 hn).2
  have := sumZ_ways (h := fun a b => h (rA n a) (rB n a b)) (show 0 < md_fact n by omega) (md_fact n)
  rw [this]
  have e : sumZ (fun a => sumZ (fun b => h (rA n a) (rB n a b)) (md_fact n)) (md_fact n) = sumZ (fun a => sumZ (h (rA n a)) (md_fact n)) (md_fact n) := sumZ_congr (fun a ha => sumZ_perm (h := h (rA n a)) (rB_perm hn ha))
  rw [e]
  exact sumZ_perm (h := fun o => sumZ (h o) (md_fact n)) (rA_perm hn)
/-- each row of ORDERS alike -/
theorem sumF (F : Nat → Int) {n : Nat} (hn : n ≤ 4) : 2 * sumZ (fun r => sumZ (fun i => ((i : Int) + 1) * F (ro r i)) n) (md_fact n) = (md_fact n * (n + 1) : Nat) * sumZ F n := by
  rcases (show n = 0 ∨ n = 1 ∨ n = 2 ∨ n = 3 ∨ n = 4 by omega) with rfl | rfl | rfl | rfl | rfl
  all_goals
    simp only [sumZ, md_fact, ro, RET, List.getD_cons_zero, List.getD_cons_succ, Nat.reduceMul, Nat.reduceAdd]
    omega
theorem sumS (S : Nat → Nat → Int) {n : Nat} (hn : n ≤ 4) : (n : Int) * sumZ (fun r => sumZ (fun i => S i (ro r i)) n) (md_fact n) = (md_fact n : Int) * sumZ (fun i => sumZ (S i) n) n := by
  rcases (show n = 0 ∨ n = 1 ∨ n = 2 ∨ n = 3 ∨ n = 4 by omega) with rfl | rfl | rfl | rfl | rfl
  all_goals
    simp only [sumZ, md_fact, ro, RET, List.getD_cons_zero, List.getD_cons_succ, Nat.reduceMul, Nat.reduceAdd]
    try omega
