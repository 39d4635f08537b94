/-! the reference's constructor, whole -/
def st_E (E0 : pm_E) (h0 : Nat) (u : Nat → Nat) : pm_E := (fun t k => if t = 29 then h0 else if 30 ≤ t ∧ t < 44 then u (t - 30) else E0.1 t k, E0.2)
def st_c : List (Nat × Nat) := (List.range 29).flatMap (fun t => (List.range (pm_cnt t)).map (fun k => (t, k)))
def st_d : List (Nat × Nat) := (List.range 15).map (fun t => (t + 29, 0))
def st_wC (E : pm_E) (M : pm_M) : va_W := st_c.map (fun q => (E.1 q.1 q.2, pm_ent E M q.1 q.2))
def st_M (xs : Nat → Int32) (L : Int32) : pm_M := (fun t _ => if t = 50 then xs else if t = 49 then (fun _ => L) else if t = 12 then (fun j => if j = 1 then 1 else 0) else if t = 27 then (fun j => if j = 0 then -4 else 0) else fun _ => 0, 0)
theorem st_cells : pm_cells = st_c ++ st_d := by decide +kernel
theorem st_wl (E : pm_E) (M : pm_M) : pm_wl E M = st_wC E M ++ st_d.map (fun q => (E.1 q.1 q.2, pm_ent E M q.1 q.2)) := by
  unfold pm_wl st_wC
  rw [st_cells, List.map_append]
theorem st_lt : ∀ q ∈ st_c, q.1 < 29 := by decide +kernel
theorem st_entC (E0 : pm_E) (h0 : Nat) (u : Nat → Nat) (M : pm_M) {t : Nat} (ht : t < 29) (k : Nat) : pm_ent (st_E E0 h0 u) M t k = pm_ent E0 M t k := by
  match t, ht with
  | 0, _ => rfl
  | 1, _ => rfl
  | 2, _ => rfl
  | 3, _ => rfl
  | 4, _ => rfl
  | 5, _ => rfl
  | 6, _ => rfl
  | 7, _ => rfl
  | 8, _ => rfl
  | 9, _ => rfl
  | 10, _ => rfl
  | 11, _ => rfl
  | 12, _ => rfl
  | 13, _ => rfl
  | 14, _ => rfl
  | 15, _ => rfl
  | 16, _ => rfl
  | 17, _ => rfl
  | 18, _ => rfl
  | 19, _ => rfl
  | 20, _ => rfl
  | 21, _ => rfl
  | 22, _ => rfl
  | 23, _ => rfl
  | 24, _ => rfl
  | 25, _ => rfl
  | 26, _ => rfl
  | 27, _ => rfl
  | 28, _ => rfl
  | n + 29, h => exact absurd h (Nat.not_lt.mpr (Nat.le_add_left 29 n))
theorem st_addr (E0 : pm_E) (h0 : Nat) (u : Nat → Nat) {t : Nat} (ht : t < 29) (k : Nat) : (st_E E0 h0 u).1 t k = E0.1 t k := by
  show (if t = 29 then h0 else if 30 ≤ t ∧ t < 44 then u (t - 30) else E0.1 t k) = E0.1 t k
  rw [if_neg (by omega), if_neg (by omega)]
theorem st_wCE (E0 : pm_E) (h0 : Nat) (u : Nat → Nat) (M : pm_M) : st_wC (st_E E0 h0 u) M = st_wC E0 M := by
  unfold st_wC
  apply List.map_congr_left
  intro q hq
  rw [st_entC E0 h0 u M (st_lt q hq), st_addr E0 h0 u (st_lt q hq)]
theorem st_t29 (E0 : pm_E) (h0 : Nat) (u : Nat → Nat) (xs : Nat → Int32) (L : Int32) : pm_ent (st_E E0 h0 u) (st_M xs L) 29 0 = .inr (6, [.ref (u 0), .ref (u 1), .ref (u 2), .int 0, .int 0, .ref (u 3), .int 0, .int 0, .int 0, .int 0, .ref (u 4), .int 0, .ref (u 5), .int 0, .int 0, .int 0, .int 0, .int 0, .int 0, .int 0, .ref (u 6), .int 0, .int 0, .ref (u 7), .ref (u 8), .int 0, .int 0, .long 0, .int 0, .int 0, .int 0, .ref (u 9), .ref (u 10), .ref (u 11), .ref (u 12), .int 0, .ref (u 13)]) := by
  simp [pm_ent, pm_sh, List.mapIdx_cons, List.mapIdx_nil, pm_fv, st_E, st_M]
theorem st_t30 (E0 : pm_E) (h0 : Nat) (u : Nat → Nat) (xs : Nat → Int32) (L : Int32) : ((st_E E0 h0 u).1 30 0, pm_ent (st_E E0 h0 u) (st_M xs L) 30 0) = (u 0, .inl (E0.2.2 0, 135, .inl (fun _ => 0))) := rfl
theorem st_t31 (E0 : pm_E) (h0 : Nat) (u : Nat → Nat) (xs : Nat → Int32) (L : Int32) : ((st_E E0 h0 u).1 31 0, pm_ent (st_E E0 h0 u) (st_M xs L) 31 0) = (u 1, .inl (E0.2.2 0, 45, .inl (fun _ => 0))) := rfl
theorem st_t32 (E0 : pm_E) (h0 : Nat) (u : Nat → Nat) (xs : Nat → Int32) (L : Int32) : ((st_E E0 h0 u).1 32 0, pm_ent (st_E E0 h0 u) (st_M xs L) 32 0) = (u 2, .inl (E0.2.2 2, 2, .inl (fun _ => 0))) := rfl
theorem st_t33 (E0 : pm_E) (h0 : Nat) (u : Nat → Nat) (xs : Nat → Int32) (L : Int32) : ((st_E E0 h0 u).1 33 0, pm_ent (st_E E0 h0 u) (st_M xs L) 33 0) = (u 3, .inl (E0.2.2 0, 45, .inl (fun _ => 0))) := rfl
theorem st_t34 (E0 : pm_E) (h0 : Nat) (u : Nat → Nat) (xs : Nat → Int32) (L : Int32) : ((st_E E0 h0 u).1 34 0, pm_ent (st_E E0 h0 u) (st_M xs L) 34 0) = (u 4, .inl (E0.2.2 0, 8, .inl (fun _ => 0))) := rfl
theorem st_t35 (E0 : pm_E) (h0 : Nat) (u : Nat → Nat) (xs : Nat → Int32) (L : Int32) : ((st_E E0 h0 u).1 35 0, pm_ent (st_E E0 h0 u) (st_M xs L) 35 0) = (u 5, .inl (E0.2.2 0, 160, .inl (fun _ => 0))) := rfl
theorem st_t36 (E0 : pm_E) (h0 : Nat) (u : Nat → Nat) (xs : Nat → Int32) (L : Int32) : ((st_E E0 h0 u).1 36 0, pm_ent (st_E E0 h0 u) (st_M xs L) 36 0) = (u 6, .inl (E0.2.2 0, 100, .inl (fun _ => 0))) := rfl
theorem st_t37 (E0 : pm_E) (h0 : Nat) (u : Nat → Nat) (xs : Nat → Int32) (L : Int32) : ((st_E E0 h0 u).1 37 0, pm_ent (st_E E0 h0 u) (st_M xs L) 37 0) = (u 7, .inl (E0.2.2 0, 4, .inl (fun _ => 0))) := rfl
theorem st_t38 (E0 : pm_E) (h0 : Nat) (u : Nat → Nat) (xs : Nat → Int32) (L : Int32) : ((st_E E0 h0 u).1 38 0, pm_ent (st_E E0 h0 u) (st_M xs L) 38 0) = (u 8, .inl (E0.2.2 0, 4, .inl (fun _ => 0))) := rfl
theorem st_t39 (E0 : pm_E) (h0 : Nat) (u : Nat → Nat) (xs : Nat → Int32) (L : Int32) : ((st_E E0 h0 u).1 39 0, pm_ent (st_E E0 h0 u) (st_M xs L) 39 0) = (u 9, .inl (E0.2.2 0, 16, .inl (fun _ => 0))) := rfl
theorem st_t40 (E0 : pm_E) (h0 : Nat) (u : Nat → Nat) (xs : Nat → Int32) (L : Int32) : ((st_E E0 h0 u).1 40 0, pm_ent (st_E E0 h0 u) (st_M xs L) 40 0) = (u 10, .inl (E0.2.2 0, 4, .inl (fun _ => 0))) := rfl
theorem st_t41 (E0 : pm_E) (h0 : Nat) (u : Nat → Nat) (xs : Nat → Int32) (L : Int32) : ((st_E E0 h0 u).1 41 0, pm_ent (st_E E0 h0 u) (st_M xs L) 41 0) = (u 11, .inl (E0.2.2 0, 4, .inl (fun _ => 0))) := rfl
theorem st_t42 (E0 : pm_E) (h0 : Nat) (u : Nat → Nat) (xs : Nat → Int32) (L : Int32) : ((st_E E0 h0 u).1 42 0, pm_ent (st_E E0 h0 u) (st_M xs L) 42 0) = (u 12, .inl (E0.2.2 0, 160, .inl (fun _ => 0))) := rfl
theorem st_t43 (E0 : pm_E) (h0 : Nat) (u : Nat → Nat) (xs : Nat → Int32) (L : Int32) : ((st_E E0 h0 u).1 43 0, pm_ent (st_E E0 h0 u) (st_M xs L) 43 0) = (u 13, .inl (E0.2.2 0, 45, .inl (fun _ => 0))) := rfl
theorem st_dl : st_d = [(29, 0), (30, 0), (31, 0), (32, 0), (33, 0), (34, 0), (35, 0), (36, 0), (37, 0), (38, 0), (39, 0), (40, 0), (41, 0), (42, 0), (43, 0)] := by decide
theorem st_tail (E0 : pm_E) (h0 : Nat) (u : Nat → Nat) (xs : Nat → Int32) (L : Int32) : st_d.map (fun q => ((st_E E0 h0 u).1 q.1 q.2, pm_ent (st_E E0 h0 u) (st_M xs L) q.1 q.2)) = cz_wMo E0.2.2 h0 u := by
  rw [st_dl]
  simp only [List.map_cons, List.map_nil]
  rw [st_t29, st_t30, st_t31, st_t32, st_t33, st_t34, st_t35, st_t36, st_t37, st_t38, st_t39, st_t40, st_t41, st_t42, st_t43]
  rfl
