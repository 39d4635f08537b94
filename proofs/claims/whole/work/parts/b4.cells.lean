/-! the class's cells, as the pure machine has them -/
def st_b (k : Nat) : Nat := match k with
  | 0 => 0
  | 1 => 8
  | 2 => 34
  | _ => 42
def st_a (h0 : Nat) (u : Nat → Nat) (t k : Nat) : Nat := match t with
  | 0 => h0
  | 1 => u 16
  | 2 => u 17
  | 3 => u 33
  | 4 => u (st_b k + 0)
  | 5 => u (st_b k + 1)
  | 6 => u (st_b k + 2)
  | 7 => u (st_b k + 3)
  | 8 => u (st_b k + 4)
  | 9 => u (st_b k + 5)
  | 10 => u (st_b k + 6)
  | 11 => u (st_b k + 7)
  | 12 => u 18
  | 13 => u 19
  | 14 => u 20
  | 15 => u 21
  | 16 => u 22
  | 17 => u 23
  | 18 => u 24
  | 19 => u 25
  | 20 => u 26
  | 21 => u 27
  | 22 => u 28
  | 23 => u 29
  | 24 => u 30
  | 25 => u 31
  | 26 => u 32
  | 27 => u (50 + 2 * k)
  | 28 => u (51 + 2 * k)
  | _ => 0
def st_E0 (h0 : Nat) (u : Nat → Nat) (b tO : Nat) (adK adV : Nat → Nat) (fm : Value) (cT : Nat → ClassId) : pm_E := (fun t k => if t = 50 then b else if t = 51 then tO else if t = 52 then adK k else if t = 53 then adV k else st_a h0 u t k, fm, cT)
theorem st_arrV {cA : ClassId} {n : Nat} {z z' : Nat → Value} (h : ∀ j, j < n → z j = z' j) : arrV cA n z = arrV cA n z' := by
  unfold arrV
  congr 2
  funext i
  exact h i i.2
def st_at (a : Nat) (e : va_E) (W : va_W) (i : Nat) : Prop := ∃ e', W[i]? = some (a, e') ∧ ∀ (D : va_G) (H : Heap), va_at D pm_cl (a, e') H → va_at D pm_cl (a, e) H
theorem st_at0 {a : Nat} {e : va_E} {W : va_W} {i : Nat} (h : W[i]? = some (a, e)) : st_at a e W i := ⟨e, h, fun _ _ h => h⟩
section ST4
variable (h0 : Nat) (u : Nat → Nat) (b tO : Nat) (adK adV : Nat → Nat) (fm : Value) (cT : Nat → ClassId) (xs : Nat → Int32) (L : Int32)
theorem st_w_0_0 : st_at ((st_E0 h0 u b tO adK adV fm cT).1 0 0) (pm_ent (st_E0 h0 u b tO adK adV fm cT) (st_M xs L) 0 0) (cz_wWt cT h0 u) 0 := by
  refine st_at0 ?_
  simp [cz_wWt, pm_ent, pm_sh, List.mapIdx_cons, List.mapIdx_nil, pm_fv, st_E0, st_a, st_b, st_M]
theorem st_w_1_0 : st_at ((st_E0 h0 u b tO adK adV fm cT).1 1 0) (pm_ent (st_E0 h0 u b tO adK adV fm cT) (st_M xs L) 1 0) (cz_wWt cT h0 u) 17 := by
  refine ⟨_, rfl, fun D H h => ?_⟩
  have h : H[(st_E0 h0 u b tO adK adV fm cT).1 1 0]? = some (vp_cell _ _) := h
  show H[(st_E0 h0 u b tO adK adV fm cT).1 1 0]? = some (vp_cell _ _)
  rw [h, vp_cell_q, vp_cell_q]
  refine congrArg some (st_arrV (fun j hj => ?_))
  match j, hj with
  | 0, _ => rfl
  | 1, _ => rfl
  | n + 2, h => exact absurd h (Nat.not_lt.mpr (Nat.le_add_left 2 n))
theorem st_w_2_0 : st_at ((st_E0 h0 u b tO adK adV fm cT).1 2 0) (pm_ent (st_E0 h0 u b tO adK adV fm cT) (st_M xs L) 2 0) (cz_wWt cT h0 u) 18 := st_at0 rfl
theorem st_w_3_0 : st_at ((st_E0 h0 u b tO adK adV fm cT).1 3 0) (pm_ent (st_E0 h0 u b tO adK adV fm cT) (st_M xs L) 3 0) (cz_wWt cT h0 u) 34 := by
  refine ⟨_, rfl, fun D H h => ?_⟩
  have h : H[(st_E0 h0 u b tO adK adV fm cT).1 3 0]? = some (vp_cell _ _) := h
  show H[(st_E0 h0 u b tO adK adV fm cT).1 3 0]? = some (vp_cell _ _)
  rw [h, vp_cell_q, vp_cell_q]
  refine congrArg some (st_arrV (fun j hj => ?_))
  match j, hj with
  | 0, _ => rfl
  | 1, _ => rfl
  | 2, _ => rfl
  | 3, _ => rfl
  | n + 4, h => exact absurd h (Nat.not_lt.mpr (Nat.le_add_left 4 n))
theorem st_w_4_0 : st_at ((st_E0 h0 u b tO adK adV fm cT).1 4 0) (pm_ent (st_E0 h0 u b tO adK adV fm cT) (st_M xs L) 4 0) (cz_wWt cT h0 u) 1 := by
  refine st_at0 ?_
  simp [cz_wWt, pm_ent, pm_sh, List.mapIdx_cons, List.mapIdx_nil, pm_fv, st_E0, st_a, st_b, st_M]
theorem st_w_4_1 : st_at ((st_E0 h0 u b tO adK adV fm cT).1 4 1) (pm_ent (st_E0 h0 u b tO adK adV fm cT) (st_M xs L) 4 1) (cz_wWt cT h0 u) 9 := by
  refine st_at0 ?_
  simp [cz_wWt, pm_ent, pm_sh, List.mapIdx_cons, List.mapIdx_nil, pm_fv, st_E0, st_a, st_b, st_M]
theorem st_w_4_2 : st_at ((st_E0 h0 u b tO adK adV fm cT).1 4 2) (pm_ent (st_E0 h0 u b tO adK adV fm cT) (st_M xs L) 4 2) (cz_wWt cT h0 u) 35 := by
  refine st_at0 ?_
  simp [cz_wWt, pm_ent, pm_sh, List.mapIdx_cons, List.mapIdx_nil, pm_fv, st_E0, st_a, st_b, st_M]
theorem st_w_4_3 : st_at ((st_E0 h0 u b tO adK adV fm cT).1 4 3) (pm_ent (st_E0 h0 u b tO adK adV fm cT) (st_M xs L) 4 3) (cz_wWt cT h0 u) 43 := by
  refine st_at0 ?_
  simp [cz_wWt, pm_ent, pm_sh, List.mapIdx_cons, List.mapIdx_nil, pm_fv, st_E0, st_a, st_b, st_M]
theorem st_w_5_0 : st_at ((st_E0 h0 u b tO adK adV fm cT).1 5 0) (pm_ent (st_E0 h0 u b tO adK adV fm cT) (st_M xs L) 5 0) (cz_wWt cT h0 u) 2 := st_at0 rfl
theorem st_w_5_1 : st_at ((st_E0 h0 u b tO adK adV fm cT).1 5 1) (pm_ent (st_E0 h0 u b tO adK adV fm cT) (st_M xs L) 5 1) (cz_wWt cT h0 u) 10 := st_at0 rfl
theorem st_w_5_2 : st_at ((st_E0 h0 u b tO adK adV fm cT).1 5 2) (pm_ent (st_E0 h0 u b tO adK adV fm cT) (st_M xs L) 5 2) (cz_wWt cT h0 u) 36 := st_at0 rfl
theorem st_w_5_3 : st_at ((st_E0 h0 u b tO adK adV fm cT).1 5 3) (pm_ent (st_E0 h0 u b tO adK adV fm cT) (st_M xs L) 5 3) (cz_wWt cT h0 u) 44 := st_at0 rfl
theorem st_w_6_0 : st_at ((st_E0 h0 u b tO adK adV fm cT).1 6 0) (pm_ent (st_E0 h0 u b tO adK adV fm cT) (st_M xs L) 6 0) (cz_wWt cT h0 u) 3 := st_at0 rfl
theorem st_w_6_1 : st_at ((st_E0 h0 u b tO adK adV fm cT).1 6 1) (pm_ent (st_E0 h0 u b tO adK adV fm cT) (st_M xs L) 6 1) (cz_wWt cT h0 u) 11 := st_at0 rfl
theorem st_w_6_2 : st_at ((st_E0 h0 u b tO adK adV fm cT).1 6 2) (pm_ent (st_E0 h0 u b tO adK adV fm cT) (st_M xs L) 6 2) (cz_wWt cT h0 u) 37 := st_at0 rfl
theorem st_w_6_3 : st_at ((st_E0 h0 u b tO adK adV fm cT).1 6 3) (pm_ent (st_E0 h0 u b tO adK adV fm cT) (st_M xs L) 6 3) (cz_wWt cT h0 u) 45 := st_at0 rfl
theorem st_w_7_0 : st_at ((st_E0 h0 u b tO adK adV fm cT).1 7 0) (pm_ent (st_E0 h0 u b tO adK adV fm cT) (st_M xs L) 7 0) (cz_wWt cT h0 u) 4 := st_at0 rfl
theorem st_w_7_1 : st_at ((st_E0 h0 u b tO adK adV fm cT).1 7 1) (pm_ent (st_E0 h0 u b tO adK adV fm cT) (st_M xs L) 7 1) (cz_wWt cT h0 u) 12 := st_at0 rfl
theorem st_w_7_2 : st_at ((st_E0 h0 u b tO adK adV fm cT).1 7 2) (pm_ent (st_E0 h0 u b tO adK adV fm cT) (st_M xs L) 7 2) (cz_wWt cT h0 u) 38 := st_at0 rfl
theorem st_w_7_3 : st_at ((st_E0 h0 u b tO adK adV fm cT).1 7 3) (pm_ent (st_E0 h0 u b tO adK adV fm cT) (st_M xs L) 7 3) (cz_wWt cT h0 u) 46 := st_at0 rfl
theorem st_w_8_0 : st_at ((st_E0 h0 u b tO adK adV fm cT).1 8 0) (pm_ent (st_E0 h0 u b tO adK adV fm cT) (st_M xs L) 8 0) (cz_wWt cT h0 u) 5 := st_at0 rfl
theorem st_w_8_1 : st_at ((st_E0 h0 u b tO adK adV fm cT).1 8 1) (pm_ent (st_E0 h0 u b tO adK adV fm cT) (st_M xs L) 8 1) (cz_wWt cT h0 u) 13 := st_at0 rfl
theorem st_w_8_2 : st_at ((st_E0 h0 u b tO adK adV fm cT).1 8 2) (pm_ent (st_E0 h0 u b tO adK adV fm cT) (st_M xs L) 8 2) (cz_wWt cT h0 u) 39 := st_at0 rfl
theorem st_w_8_3 : st_at ((st_E0 h0 u b tO adK adV fm cT).1 8 3) (pm_ent (st_E0 h0 u b tO adK adV fm cT) (st_M xs L) 8 3) (cz_wWt cT h0 u) 47 := st_at0 rfl
theorem st_w_9_0 : st_at ((st_E0 h0 u b tO adK adV fm cT).1 9 0) (pm_ent (st_E0 h0 u b tO adK adV fm cT) (st_M xs L) 9 0) (cz_wWt cT h0 u) 6 := st_at0 rfl
theorem st_w_9_1 : st_at ((st_E0 h0 u b tO adK adV fm cT).1 9 1) (pm_ent (st_E0 h0 u b tO adK adV fm cT) (st_M xs L) 9 1) (cz_wWt cT h0 u) 14 := st_at0 rfl
theorem st_w_9_2 : st_at ((st_E0 h0 u b tO adK adV fm cT).1 9 2) (pm_ent (st_E0 h0 u b tO adK adV fm cT) (st_M xs L) 9 2) (cz_wWt cT h0 u) 40 := st_at0 rfl
theorem st_w_9_3 : st_at ((st_E0 h0 u b tO adK adV fm cT).1 9 3) (pm_ent (st_E0 h0 u b tO adK adV fm cT) (st_M xs L) 9 3) (cz_wWt cT h0 u) 48 := st_at0 rfl
theorem st_w_10_0 : st_at ((st_E0 h0 u b tO adK adV fm cT).1 10 0) (pm_ent (st_E0 h0 u b tO adK adV fm cT) (st_M xs L) 10 0) (cz_wWt cT h0 u) 7 := st_at0 rfl
theorem st_w_10_1 : st_at ((st_E0 h0 u b tO adK adV fm cT).1 10 1) (pm_ent (st_E0 h0 u b tO adK adV fm cT) (st_M xs L) 10 1) (cz_wWt cT h0 u) 15 := st_at0 rfl
theorem st_w_10_2 : st_at ((st_E0 h0 u b tO adK adV fm cT).1 10 2) (pm_ent (st_E0 h0 u b tO adK adV fm cT) (st_M xs L) 10 2) (cz_wWt cT h0 u) 41 := st_at0 rfl
theorem st_w_10_3 : st_at ((st_E0 h0 u b tO adK adV fm cT).1 10 3) (pm_ent (st_E0 h0 u b tO adK adV fm cT) (st_M xs L) 10 3) (cz_wWt cT h0 u) 49 := st_at0 rfl
theorem st_w_11_0 : st_at ((st_E0 h0 u b tO adK adV fm cT).1 11 0) (pm_ent (st_E0 h0 u b tO adK adV fm cT) (st_M xs L) 11 0) (cz_wWt cT h0 u) 8 := st_at0 rfl
theorem st_w_11_1 : st_at ((st_E0 h0 u b tO adK adV fm cT).1 11 1) (pm_ent (st_E0 h0 u b tO adK adV fm cT) (st_M xs L) 11 1) (cz_wWt cT h0 u) 16 := st_at0 rfl
theorem st_w_11_2 : st_at ((st_E0 h0 u b tO adK adV fm cT).1 11 2) (pm_ent (st_E0 h0 u b tO adK adV fm cT) (st_M xs L) 11 2) (cz_wWt cT h0 u) 42 := st_at0 rfl
theorem st_w_11_3 : st_at ((st_E0 h0 u b tO adK adV fm cT).1 11 3) (pm_ent (st_E0 h0 u b tO adK adV fm cT) (st_M xs L) 11 3) (cz_wWt cT h0 u) 50 := st_at0 rfl
theorem st_w_12_0 : st_at ((st_E0 h0 u b tO adK adV fm cT).1 12 0) (pm_ent (st_E0 h0 u b tO adK adV fm cT) (st_M xs L) 12 0) (cz_wWt cT h0 u) 19 := by
  refine st_at0 ?_
  simp [cz_wWt, pm_ent, pm_sh, List.mapIdx_cons, List.mapIdx_nil, pm_fv, st_E0, st_a, st_b, st_M]
theorem st_w_13_0 : st_at ((st_E0 h0 u b tO adK adV fm cT).1 13 0) (pm_ent (st_E0 h0 u b tO adK adV fm cT) (st_M xs L) 13 0) (cz_wWt cT h0 u) 20 := st_at0 rfl
theorem st_w_14_0 : st_at ((st_E0 h0 u b tO adK adV fm cT).1 14 0) (pm_ent (st_E0 h0 u b tO adK adV fm cT) (st_M xs L) 14 0) (cz_wWt cT h0 u) 21 := st_at0 rfl
theorem st_w_15_0 : st_at ((st_E0 h0 u b tO adK adV fm cT).1 15 0) (pm_ent (st_E0 h0 u b tO adK adV fm cT) (st_M xs L) 15 0) (cz_wWt cT h0 u) 22 := st_at0 rfl
theorem st_w_16_0 : st_at ((st_E0 h0 u b tO adK adV fm cT).1 16 0) (pm_ent (st_E0 h0 u b tO adK adV fm cT) (st_M xs L) 16 0) (cz_wWt cT h0 u) 23 := st_at0 rfl
theorem st_w_17_0 : st_at ((st_E0 h0 u b tO adK adV fm cT).1 17 0) (pm_ent (st_E0 h0 u b tO adK adV fm cT) (st_M xs L) 17 0) (cz_wWt cT h0 u) 24 := st_at0 rfl
theorem st_w_18_0 : st_at ((st_E0 h0 u b tO adK adV fm cT).1 18 0) (pm_ent (st_E0 h0 u b tO adK adV fm cT) (st_M xs L) 18 0) (cz_wWt cT h0 u) 25 := st_at0 rfl
theorem st_w_19_0 : st_at ((st_E0 h0 u b tO adK adV fm cT).1 19 0) (pm_ent (st_E0 h0 u b tO adK adV fm cT) (st_M xs L) 19 0) (cz_wWt cT h0 u) 26 := st_at0 rfl
theorem st_w_20_0 : st_at ((st_E0 h0 u b tO adK adV fm cT).1 20 0) (pm_ent (st_E0 h0 u b tO adK adV fm cT) (st_M xs L) 20 0) (cz_wWt cT h0 u) 27 := st_at0 rfl
theorem st_w_21_0 : st_at ((st_E0 h0 u b tO adK adV fm cT).1 21 0) (pm_ent (st_E0 h0 u b tO adK adV fm cT) (st_M xs L) 21 0) (cz_wWt cT h0 u) 28 := by
  refine st_at0 ?_
  simp [cz_wWt, pm_ent, pm_sh, List.mapIdx_cons, List.mapIdx_nil, pm_fv, st_E0, st_a, st_b, st_M]
theorem st_w_22_0 : st_at ((st_E0 h0 u b tO adK adV fm cT).1 22 0) (pm_ent (st_E0 h0 u b tO adK adV fm cT) (st_M xs L) 22 0) (cz_wWt cT h0 u) 29 := st_at0 rfl
theorem st_w_23_0 : st_at ((st_E0 h0 u b tO adK adV fm cT).1 23 0) (pm_ent (st_E0 h0 u b tO adK adV fm cT) (st_M xs L) 23 0) (cz_wWt cT h0 u) 30 := by
  refine st_at0 ?_
  simp [cz_wWt, pm_ent, pm_sh, List.mapIdx_cons, List.mapIdx_nil, pm_fv, st_E0, st_a, st_b, st_M]
theorem st_w_24_0 : st_at ((st_E0 h0 u b tO adK adV fm cT).1 24 0) (pm_ent (st_E0 h0 u b tO adK adV fm cT) (st_M xs L) 24 0) (cz_wWt cT h0 u) 31 := st_at0 rfl
theorem st_w_25_0 : st_at ((st_E0 h0 u b tO adK adV fm cT).1 25 0) (pm_ent (st_E0 h0 u b tO adK adV fm cT) (st_M xs L) 25 0) (cz_wWt cT h0 u) 32 := st_at0 rfl
theorem st_w_26_0 : st_at ((st_E0 h0 u b tO adK adV fm cT).1 26 0) (pm_ent (st_E0 h0 u b tO adK adV fm cT) (st_M xs L) 26 0) (cz_wWt cT h0 u) 33 := st_at0 rfl
theorem st_w_27_0 : st_at ((st_E0 h0 u b tO adK adV fm cT).1 27 0) (pm_ent (st_E0 h0 u b tO adK adV fm cT) (st_M xs L) 27 0) (cz_wWt cT h0 u) 51 := by
  refine st_at0 ?_
  simp [cz_wWt, pm_ent, pm_sh, List.mapIdx_cons, List.mapIdx_nil, pm_fv, st_E0, st_a, st_b, st_M]
theorem st_w_27_1 : st_at ((st_E0 h0 u b tO adK adV fm cT).1 27 1) (pm_ent (st_E0 h0 u b tO adK adV fm cT) (st_M xs L) 27 1) (cz_wWt cT h0 u) 53 := by
  refine st_at0 ?_
  simp [cz_wWt, pm_ent, pm_sh, List.mapIdx_cons, List.mapIdx_nil, pm_fv, st_E0, st_a, st_b, st_M]
theorem st_w_27_2 : st_at ((st_E0 h0 u b tO adK adV fm cT).1 27 2) (pm_ent (st_E0 h0 u b tO adK adV fm cT) (st_M xs L) 27 2) (cz_wWt cT h0 u) 55 := by
  refine st_at0 ?_
  simp [cz_wWt, pm_ent, pm_sh, List.mapIdx_cons, List.mapIdx_nil, pm_fv, st_E0, st_a, st_b, st_M]
theorem st_w_27_3 : st_at ((st_E0 h0 u b tO adK adV fm cT).1 27 3) (pm_ent (st_E0 h0 u b tO adK adV fm cT) (st_M xs L) 27 3) (cz_wWt cT h0 u) 57 := by
  refine st_at0 ?_
  simp [cz_wWt, pm_ent, pm_sh, List.mapIdx_cons, List.mapIdx_nil, pm_fv, st_E0, st_a, st_b, st_M]
theorem st_w_28_0 : st_at ((st_E0 h0 u b tO adK adV fm cT).1 28 0) (pm_ent (st_E0 h0 u b tO adK adV fm cT) (st_M xs L) 28 0) (cz_wWt cT h0 u) 52 := st_at0 rfl
theorem st_w_28_1 : st_at ((st_E0 h0 u b tO adK adV fm cT).1 28 1) (pm_ent (st_E0 h0 u b tO adK adV fm cT) (st_M xs L) 28 1) (cz_wWt cT h0 u) 54 := st_at0 rfl
theorem st_w_28_2 : st_at ((st_E0 h0 u b tO adK adV fm cT).1 28 2) (pm_ent (st_E0 h0 u b tO adK adV fm cT) (st_M xs L) 28 2) (cz_wWt cT h0 u) 56 := st_at0 rfl
theorem st_w_28_3 : st_at ((st_E0 h0 u b tO adK adV fm cT).1 28 3) (pm_ent (st_E0 h0 u b tO adK adV fm cT) (st_M xs L) 28 3) (cz_wWt cT h0 u) 58 := st_at0 rfl
def st_ix (c : Nat × Nat) : Nat := [(0, 0), (4, 0), (5, 0), (6, 0), (7, 0), (8, 0), (9, 0), (10, 0), (11, 0), (4, 1), (5, 1), (6, 1), (7, 1), (8, 1), (9, 1), (10, 1), (11, 1), (1, 0), (2, 0), (12, 0), (13, 0), (14, 0), (15, 0), (16, 0), (17, 0), (18, 0), (19, 0), (20, 0), (21, 0), (22, 0), (23, 0), (24, 0), (25, 0), (26, 0), (3, 0), (4, 2), (5, 2), (6, 2), (7, 2), (8, 2), (9, 2), (10, 2), (11, 2), (4, 3), (5, 3), (6, 3), (7, 3), (8, 3), (9, 3), (10, 3), (11, 3), (27, 0), (28, 0), (27, 1), (28, 1), (27, 2), (28, 2), (27, 3), (28, 3)].idxOf c
theorem st_cl : st_c = [(0, 0), (1, 0), (2, 0), (3, 0), (4, 0), (4, 1), (4, 2), (4, 3), (5, 0), (5, 1), (5, 2), (5, 3), (6, 0), (6, 1), (6, 2), (6, 3), (7, 0), (7, 1), (7, 2), (7, 3), (8, 0), (8, 1), (8, 2), (8, 3), (9, 0), (9, 1), (9, 2), (9, 3), (10, 0), (10, 1), (10, 2), (10, 3), (11, 0), (11, 1), (11, 2), (11, 3), (12, 0), (13, 0), (14, 0), (15, 0), (16, 0), (17, 0), (18, 0), (19, 0), (20, 0), (21, 0), (22, 0), (23, 0), (24, 0), (25, 0), (26, 0), (27, 0), (27, 1), (27, 2), (27, 3), (28, 0), (28, 1), (28, 2), (28, 3)] := by decide +kernel
theorem st_ixi : ∀ c ∈ st_c, ∀ d ∈ st_c, st_ix c = st_ix d → c = d := by decide +kernel
theorem st_cn : st_c.Nodup := by decide +kernel
set_option maxRecDepth 20000 in
theorem st_cell : ∀ c ∈ st_c, st_at ((st_E0 h0 u b tO adK adV fm cT).1 c.1 c.2) (pm_ent (st_E0 h0 u b tO adK adV fm cT) (st_M xs L) c.1 c.2) (cz_wWt cT h0 u) (st_ix c) := by
  rw [st_cl]
  refine List.forall_mem_cons.mpr ⟨st_w_0_0 h0 u b tO adK adV fm cT xs L, ?_⟩
  refine List.forall_mem_cons.mpr ⟨st_w_1_0 h0 u b tO adK adV fm cT xs L, ?_⟩
  refine List.forall_mem_cons.mpr ⟨st_w_2_0 h0 u b tO adK adV fm cT xs L, ?_⟩
  refine List.forall_mem_cons.mpr ⟨st_w_3_0 h0 u b tO adK adV fm cT xs L, ?_⟩
  refine List.forall_mem_cons.mpr ⟨st_w_4_0 h0 u b tO adK adV fm cT xs L, ?_⟩
  refine List.forall_mem_cons.mpr ⟨st_w_4_1 h0 u b tO adK adV fm cT xs L, ?_⟩
  refine List.forall_mem_cons.mpr ⟨st_w_4_2 h0 u b tO adK adV fm cT xs L, ?_⟩
  refine List.forall_mem_cons.mpr ⟨st_w_4_3 h0 u b tO adK adV fm cT xs L, ?_⟩
  refine List.forall_mem_cons.mpr ⟨st_w_5_0 h0 u b tO adK adV fm cT xs L, ?_⟩
  refine List.forall_mem_cons.mpr ⟨st_w_5_1 h0 u b tO adK adV fm cT xs L, ?_⟩
  refine List.forall_mem_cons.mpr ⟨st_w_5_2 h0 u b tO adK adV fm cT xs L, ?_⟩
  refine List.forall_mem_cons.mpr ⟨st_w_5_3 h0 u b tO adK adV fm cT xs L, ?_⟩
  refine List.forall_mem_cons.mpr ⟨st_w_6_0 h0 u b tO adK adV fm cT xs L, ?_⟩
  refine List.forall_mem_cons.mpr ⟨st_w_6_1 h0 u b tO adK adV fm cT xs L, ?_⟩
  refine List.forall_mem_cons.mpr ⟨st_w_6_2 h0 u b tO adK adV fm cT xs L, ?_⟩
  refine List.forall_mem_cons.mpr ⟨st_w_6_3 h0 u b tO adK adV fm cT xs L, ?_⟩
  refine List.forall_mem_cons.mpr ⟨st_w_7_0 h0 u b tO adK adV fm cT xs L, ?_⟩
  refine List.forall_mem_cons.mpr ⟨st_w_7_1 h0 u b tO adK adV fm cT xs L, ?_⟩
  refine List.forall_mem_cons.mpr ⟨st_w_7_2 h0 u b tO adK adV fm cT xs L, ?_⟩
  refine List.forall_mem_cons.mpr ⟨st_w_7_3 h0 u b tO adK adV fm cT xs L, ?_⟩
  refine List.forall_mem_cons.mpr ⟨st_w_8_0 h0 u b tO adK adV fm cT xs L, ?_⟩
  refine List.forall_mem_cons.mpr ⟨st_w_8_1 h0 u b tO adK adV fm cT xs L, ?_⟩
  refine List.forall_mem_cons.mpr ⟨st_w_8_2 h0 u b tO adK adV fm cT xs L, ?_⟩
  refine List.forall_mem_cons.mpr ⟨st_w_8_3 h0 u b tO adK adV fm cT xs L, ?_⟩
  refine List.forall_mem_cons.mpr ⟨st_w_9_0 h0 u b tO adK adV fm cT xs L, ?_⟩
  refine List.forall_mem_cons.mpr ⟨st_w_9_1 h0 u b tO adK adV fm cT xs L, ?_⟩
  refine List.forall_mem_cons.mpr ⟨st_w_9_2 h0 u b tO adK adV fm cT xs L, ?_⟩
  refine List.forall_mem_cons.mpr ⟨st_w_9_3 h0 u b tO adK adV fm cT xs L, ?_⟩
  refine List.forall_mem_cons.mpr ⟨st_w_10_0 h0 u b tO adK adV fm cT xs L, ?_⟩
  refine List.forall_mem_cons.mpr ⟨st_w_10_1 h0 u b tO adK adV fm cT xs L, ?_⟩
  refine List.forall_mem_cons.mpr ⟨st_w_10_2 h0 u b tO adK adV fm cT xs L, ?_⟩
  refine List.forall_mem_cons.mpr ⟨st_w_10_3 h0 u b tO adK adV fm cT xs L, ?_⟩
  refine List.forall_mem_cons.mpr ⟨st_w_11_0 h0 u b tO adK adV fm cT xs L, ?_⟩
  refine List.forall_mem_cons.mpr ⟨st_w_11_1 h0 u b tO adK adV fm cT xs L, ?_⟩
  refine List.forall_mem_cons.mpr ⟨st_w_11_2 h0 u b tO adK adV fm cT xs L, ?_⟩
  refine List.forall_mem_cons.mpr ⟨st_w_11_3 h0 u b tO adK adV fm cT xs L, ?_⟩
  refine List.forall_mem_cons.mpr ⟨st_w_12_0 h0 u b tO adK adV fm cT xs L, ?_⟩
  refine List.forall_mem_cons.mpr ⟨st_w_13_0 h0 u b tO adK adV fm cT xs L, ?_⟩
  refine List.forall_mem_cons.mpr ⟨st_w_14_0 h0 u b tO adK adV fm cT xs L, ?_⟩
  refine List.forall_mem_cons.mpr ⟨st_w_15_0 h0 u b tO adK adV fm cT xs L, ?_⟩
  refine List.forall_mem_cons.mpr ⟨st_w_16_0 h0 u b tO adK adV fm cT xs L, ?_⟩
  refine List.forall_mem_cons.mpr ⟨st_w_17_0 h0 u b tO adK adV fm cT xs L, ?_⟩
  refine List.forall_mem_cons.mpr ⟨st_w_18_0 h0 u b tO adK adV fm cT xs L, ?_⟩
  refine List.forall_mem_cons.mpr ⟨st_w_19_0 h0 u b tO adK adV fm cT xs L, ?_⟩
  refine List.forall_mem_cons.mpr ⟨st_w_20_0 h0 u b tO adK adV fm cT xs L, ?_⟩
  refine List.forall_mem_cons.mpr ⟨st_w_21_0 h0 u b tO adK adV fm cT xs L, ?_⟩
  refine List.forall_mem_cons.mpr ⟨st_w_22_0 h0 u b tO adK adV fm cT xs L, ?_⟩
  refine List.forall_mem_cons.mpr ⟨st_w_23_0 h0 u b tO adK adV fm cT xs L, ?_⟩
  refine List.forall_mem_cons.mpr ⟨st_w_24_0 h0 u b tO adK adV fm cT xs L, ?_⟩
  refine List.forall_mem_cons.mpr ⟨st_w_25_0 h0 u b tO adK adV fm cT xs L, ?_⟩
  refine List.forall_mem_cons.mpr ⟨st_w_26_0 h0 u b tO adK adV fm cT xs L, ?_⟩
  refine List.forall_mem_cons.mpr ⟨st_w_27_0 h0 u b tO adK adV fm cT xs L, ?_⟩
  refine List.forall_mem_cons.mpr ⟨st_w_27_1 h0 u b tO adK adV fm cT xs L, ?_⟩
  refine List.forall_mem_cons.mpr ⟨st_w_27_2 h0 u b tO adK adV fm cT xs L, ?_⟩
  refine List.forall_mem_cons.mpr ⟨st_w_27_3 h0 u b tO adK adV fm cT xs L, ?_⟩
  refine List.forall_mem_cons.mpr ⟨st_w_28_0 h0 u b tO adK adV fm cT xs L, ?_⟩
  refine List.forall_mem_cons.mpr ⟨st_w_28_1 h0 u b tO adK adV fm cT xs L, ?_⟩
  refine List.forall_mem_cons.mpr ⟨st_w_28_2 h0 u b tO adK adV fm cT xs L, ?_⟩
  refine List.forall_mem_cons.mpr ⟨st_w_28_3 h0 u b tO adK adV fm cT xs L, ?_⟩
  exact fun _ h => absurd h List.not_mem_nil
end ST4
