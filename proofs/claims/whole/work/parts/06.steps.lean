section PmS
variable {p : Program} {l : Launch} {e : Env} {R : Room} {s : State} {m : MethodId} {args : Array Value} {below : List Frame} {meth : Method} {c : Code} {cells slots : Nat} {Z : State → Prop} {D : va_G} {E : pm_E} {A : Nat → Prop} {xs : Nat → Int32} {L : Int32} {nL : Nat} {pc : Nat} {ls : pm_L} {st : List pm_V} {M : pm_M} {cs : List Prop} {s' : pm_S}
theorem pm_s_push {d : Nat} {v : Option pm_V} (hv : ∀ (w : pm_V), v = some w → ∀ (H : Heap) (locs : List Loc) (LS : Array Slot) (r : List Value), pm_Wd D E A s xs L M H locs → pm_Fr nL E LS ls st → pm_okv w ∧ (W p l e R s m args below meth c H locs cells slots Z (F0 m (pc + d) LS (pm_cv E w :: r)) → W p l e R s m args below meth c H locs cells slots Z (F0 m pc LS r)))
    (hs : pm_push d pc ls st M v = some (cs, s')) (kk : pm_J p l e R s m args below meth c cells slots Z D E A xs L nL s'.1 s'.2.1 s'.2.2.1 s'.2.2.2) : pm_J p l e R s m args below meth c cells slots Z D E A xs L nL pc ls st M := by
  unfold pm_push at hs
  split at hs
  · rename_i w
    cases hs
    intro H locs LS hW hF
    obtain ⟨h1, h2⟩ := hv w rfl H locs LS (st.map (pm_cv E)) hW hF
    exact h2 (kk H locs LS hW (hF.stk (pm_ok_c h1 hF.ok)))
  · cases hs
theorem pm_s_bi {f : Int32 → Int32 → Int32} (row : ∀ (H : Heap) (locs : List Loc) (LS : Array Slot) (x y : Int32) (r : List Value), W p l e R s m args below meth c H locs cells slots Z (F0 m (pc + 1) LS (.int (f x y) :: r)) → W p l e R s m args below meth c H locs cells slots Z (F0 m pc LS (.int y :: .int x :: r)))
    (hs : pm_bi pc ls st M f = some (cs, s')) (kk : pm_J p l e R s m args below meth c cells slots Z D E A xs L nL s'.1 s'.2.1 s'.2.2.1 s'.2.2.2) : pm_J p l e R s m args below meth c cells slots Z D E A xs L nL pc ls st M := by
  unfold pm_bi at hs
  split at hs
  · cases hs
    intro H locs LS hW hF
    exact row H locs LS _ _ _ (kk H locs LS hW (hF.stk (pm_ok_c trivial (pm_ok_t (pm_ok_t hF.ok)))))
  · cases hs
theorem pm_s_bd {f : Int32 → Int32 → Int32} (row : ∀ (H : Heap) (locs : List Loc) (LS : Array Slot) (x y : Int32) (r : List Value), ¬ y = 0 → W p l e R s m args below meth c H locs cells slots Z (F0 m (pc + 1) LS (.int (f x y) :: r)) → W p l e R s m args below meth c H locs cells slots Z (F0 m pc LS (.int y :: .int x :: r)))
    (hs : pm_bd pc ls st M f = some (cs, s')) (hc : pm_all cs) (kk : pm_J p l e R s m args below meth c cells slots Z D E A xs L nL s'.1 s'.2.1 s'.2.2.1 s'.2.2.2) : pm_J p l e R s m args below meth c cells slots Z D E A xs L nL pc ls st M := by
  unfold pm_bd at hs
  split at hs
  · cases hs
    intro H locs LS hW hF
    exact row H locs LS _ _ _ hc.1 (kk H locs LS hW (hF.stk (pm_ok_c trivial (pm_ok_t (pm_ok_t hF.ok)))))
  · cases hs
theorem pm_s_bl {f : Int64 → Int64 → Int64} (row : ∀ (H : Heap) (locs : List Loc) (LS : Array Slot) (x y : Int64) (r : List Value), W p l e R s m args below meth c H locs cells slots Z (F0 m (pc + 1) LS (.long (f x y) :: r)) → W p l e R s m args below meth c H locs cells slots Z (F0 m pc LS (.long y :: .long x :: r)))
    (hs : pm_bl pc ls st M f = some (cs, s')) (kk : pm_J p l e R s m args below meth c cells slots Z D E A xs L nL s'.1 s'.2.1 s'.2.2.1 s'.2.2.2) : pm_J p l e R s m args below meth c cells slots Z D E A xs L nL pc ls st M := by
  unfold pm_bl at hs
  split at hs
  · cases hs
    intro H locs LS hW hF
    exact row H locs LS _ _ _ (kk H locs LS hW (hF.stk (pm_ok_c trivial (pm_ok_t (pm_ok_t hF.ok)))))
  · cases hs
theorem pm_s_bld {f : Int64 → Int64 → Int64} (row : ∀ (H : Heap) (locs : List Loc) (LS : Array Slot) (x y : Int64) (r : List Value), ¬ y = 0 → W p l e R s m args below meth c H locs cells slots Z (F0 m (pc + 1) LS (.long (f x y) :: r)) → W p l e R s m args below meth c H locs cells slots Z (F0 m pc LS (.long y :: .long x :: r)))
    (hs : pm_bld pc ls st M f = some (cs, s')) (hc : pm_all cs) (kk : pm_J p l e R s m args below meth c cells slots Z D E A xs L nL s'.1 s'.2.1 s'.2.2.1 s'.2.2.2) : pm_J p l e R s m args below meth c cells slots Z D E A xs L nL pc ls st M := by
  unfold pm_bld at hs
  split at hs
  · cases hs
    intro H locs LS hW hF
    exact row H locs LS _ _ _ hc.1 (kk H locs LS hW (hF.stk (pm_ok_c trivial (pm_ok_t (pm_ok_t hF.ok)))))
  · cases hs
theorem pm_s_lcmp (row : ∀ (H : Heap) (locs : List Loc) (LS : Array Slot) (x y : Int64) (r : List Value), W p l e R s m args below meth c H locs cells slots Z (F0 m (pc + 1) LS (.int (lg_cmp x y) :: r)) → W p l e R s m args below meth c H locs cells slots Z (F0 m pc LS (.long y :: .long x :: r)))
    (hs : pm_lcmp pc ls st M = some (cs, s')) (kk : pm_J p l e R s m args below meth c cells slots Z D E A xs L nL s'.1 s'.2.1 s'.2.2.1 s'.2.2.2) : pm_J p l e R s m args below meth c cells slots Z D E A xs L nL pc ls st M := by
  unfold pm_lcmp at hs
  split at hs
  · cases hs
    intro H locs LS hW hF
    exact row H locs LS _ _ _ (kk H locs LS hW (hF.stk (pm_ok_c trivial (pm_ok_t (pm_ok_t hF.ok)))))
  · cases hs
theorem pm_s_ui {f : Int32 → pm_V} (hf : ∀ x, pm_okv (f x)) (row : ∀ (H : Heap) (locs : List Loc) (LS : Array Slot) (x : Int32) (r : List Value), W p l e R s m args below meth c H locs cells slots Z (F0 m (pc + 1) LS (pm_cv E (f x) :: r)) → W p l e R s m args below meth c H locs cells slots Z (F0 m pc LS (.int x :: r)))
    (hs : pm_ui pc ls st M f = some (cs, s')) (kk : pm_J p l e R s m args below meth c cells slots Z D E A xs L nL s'.1 s'.2.1 s'.2.2.1 s'.2.2.2) : pm_J p l e R s m args below meth c cells slots Z D E A xs L nL pc ls st M := by
  unfold pm_ui at hs
  split at hs
  · cases hs
    intro H locs LS hW hF
    exact row H locs LS _ _ (kk H locs LS hW (hF.stk (pm_ok_c (hf _) (pm_ok_t hF.ok))))
  · cases hs
theorem pm_s_ul {f : Int64 → pm_V} (hf : ∀ x, pm_okv (f x)) (row : ∀ (H : Heap) (locs : List Loc) (LS : Array Slot) (x : Int64) (r : List Value), W p l e R s m args below meth c H locs cells slots Z (F0 m (pc + 1) LS (pm_cv E (f x) :: r)) → W p l e R s m args below meth c H locs cells slots Z (F0 m pc LS (.long x :: r)))
    (hs : pm_ul pc ls st M f = some (cs, s')) (kk : pm_J p l e R s m args below meth c cells slots Z D E A xs L nL s'.1 s'.2.1 s'.2.2.1 s'.2.2.2) : pm_J p l e R s m args below meth c cells slots Z D E A xs L nL pc ls st M := by
  unfold pm_ul at hs
  split at hs
  · cases hs
    intro H locs LS hW hF
    exact row H locs LS _ _ (kk H locs LS hW (hF.stk (pm_ok_c (hf _) (pm_ok_t hF.ok))))
  · cases hs
theorem pm_tgt {pc : Nat} {off : Int} (h : 0 ≤ (pc : Int) + off) : (pc : Int) + off = (pm_tg pc off : Int) := by unfold pm_tg; omega
theorem pm_s_if {off : Int} {f : Int32 → Nat → Nat → Nat} (row : ∀ (H : Heap) (locs : List Loc) (LS : Array Slot) (x : Int32) (r : List Value) (tgt : Nat), (pc : Int) + off = (tgt : Int) → W p l e R s m args below meth c H locs cells slots Z (F0 m (f x tgt (pc + 3)) LS r) → W p l e R s m args below meth c H locs cells slots Z (F0 m pc LS (.int x :: r)))
    (hs : pm_if pc ls st M off f = some (cs, s')) (kk : pm_J p l e R s m args below meth c cells slots Z D E A xs L nL s'.1 s'.2.1 s'.2.2.1 s'.2.2.2) : pm_J p l e R s m args below meth c cells slots Z D E A xs L nL pc ls st M := by
  unfold pm_if at hs
  split at hs
  · split at hs
    · rename_i h0
      cases hs
      intro H locs LS hW hF
      exact row H locs LS _ _ _ (pm_tgt h0) (kk H locs LS hW (hF.stk (pm_ok_t hF.ok)))
    · cases hs
  · cases hs
theorem pm_s_ic2 {off : Int} {f : Int32 → Int32 → Nat → Nat → Nat} (row : ∀ (H : Heap) (locs : List Loc) (LS : Array Slot) (x y : Int32) (r : List Value) (tgt : Nat), (pc : Int) + off = (tgt : Int) → W p l e R s m args below meth c H locs cells slots Z (F0 m (f x y tgt (pc + 3)) LS r) → W p l e R s m args below meth c H locs cells slots Z (F0 m pc LS (.int y :: .int x :: r)))
    (hs : pm_ic2 pc ls st M off f = some (cs, s')) (kk : pm_J p l e R s m args below meth c cells slots Z D E A xs L nL s'.1 s'.2.1 s'.2.2.1 s'.2.2.2) : pm_J p l e R s m args below meth c cells slots Z D E A xs L nL pc ls st M := by
  unfold pm_ic2 at hs
  split at hs
  · split at hs
    · rename_i h0
      cases hs
      intro H locs LS hW hF
      exact row H locs LS _ _ _ _ (pm_tgt h0) (kk H locs LS hW (hF.stk (pm_ok_t (pm_ok_t hF.ok))))
    · cases hs
  · cases hs
theorem pm_s_sti {d k : Nat} (hE : E.2.1.category = 1) (row : ∀ (H : Heap) (locs : List Loc) (LS : Array Slot) (x : Int32) (r : List Value) (lv : List (Nat × Value)), lv_has LS nL lv → k < nL → (∀ LS' : Array Slot, lv_has LS' nL ((k, Value.int x) :: lv.filter (fun q => !(q.1 == k) && !(q.1 + 1 == k && q.2.category == 2))) → W p l e R s m args below meth c H locs cells slots Z (F0 m (pc + d) LS' r)) → W p l e R s m args below meth c H locs cells slots Z (F0 m pc LS (.int x :: r)))
    (hs : pm_sti d pc ls st M k = some (cs, s')) (kk : pm_J p l e R s m args below meth c cells slots Z D E A xs L nL s'.1 s'.2.1 s'.2.2.1 s'.2.2.2) : pm_J p l e R s m args below meth c cells slots Z D E A xs L nL pc ls st M := by
  unfold pm_sti at hs
  split at hs
  · split at hs
    · rename_i x r h0
      cases hs
      intro H locs LS hW hF
      exact row H locs LS _ _ _ hF.has (by rw [← hF.2.2.1]; exact h0) (fun LS' hl => kk H locs LS' hW (hF.st1 (v := pm_i x) hE trivial hl (pm_ok_t hF.ok)))
    · cases hs
  · cases hs
theorem pm_s_stl {d k : Nat} (hE : E.2.1.category = 1) (row : ∀ (H : Heap) (locs : List Loc) (LS : Array Slot) (x : Int64) (r : List Value) (lv : List (Nat × Value)), lv_has LS nL lv → k + 1 < nL → (∀ LS' : Array Slot, lv_has LS' nL ((k, Value.long x) :: lv.filter (fun q => !(q.1 == k) && (!(q.1 == k + 1) && !(q.1 + 1 == k && q.2.category == 2)))) → W p l e R s m args below meth c H locs cells slots Z (F0 m (pc + d) LS' r)) → W p l e R s m args below meth c H locs cells slots Z (F0 m pc LS (.long x :: r)))
    (hs : pm_stl d pc ls st M k = some (cs, s')) (kk : pm_J p l e R s m args below meth c cells slots Z D E A xs L nL s'.1 s'.2.1 s'.2.2.1 s'.2.2.2) : pm_J p l e R s m args below meth c cells slots Z D E A xs L nL pc ls st M := by
  unfold pm_stl at hs
  split at hs
  · split at hs
    · rename_i x r h0
      cases hs
      intro H locs LS hW hF
      exact row H locs LS _ _ _ hF.has (by rw [← hF.2.2.1]; exact h0) (fun LS' hl => kk H locs LS' hW (hF.st2 (v := pm_l x) hE trivial hl (pm_ok_t hF.ok)))
    · cases hs
  · cases hs
theorem pm_s_sta {d k : Nat} (hE : E.2.1.category = 1) (row : ∀ (H : Heap) (locs : List Loc) (LS : Array Slot) (x : Nat) (r : List Value) (lv : List (Nat × Value)), lv_has LS nL lv → k < nL → (∀ LS' : Array Slot, lv_has LS' nL ((k, Value.ref x) :: lv.filter (fun q => !(q.1 == k) && !(q.1 + 1 == k && q.2.category == 2))) → W p l e R s m args below meth c H locs cells slots Z (F0 m (pc + d) LS' r)) → W p l e R s m args below meth c H locs cells slots Z (F0 m pc LS (.ref x :: r)))
    (hs : pm_sta d pc ls st M k = some (cs, s')) (kk : pm_J p l e R s m args below meth c cells slots Z D E A xs L nL s'.1 s'.2.1 s'.2.2.1 s'.2.2.2) : pm_J p l e R s m args below meth c cells slots Z D E A xs L nL pc ls st M := by
  unfold pm_sta at hs
  split at hs
  · split at hs
    · cases hs
    · rename_i t j r h54
      split at hs
      · rename_i h0
        cases hs
        intro H locs LS hW hF
        have h := row H locs LS (E.1 t j) (r.map (pm_cv E)) _ hF.has (by rw [← hF.2.2.1]; exact h0) (fun LS' hl => kk H locs LS' hW (hF.st1 (v := pm_r t j) hE (pm_ok_h hF.ok) (by rw [pm_cv_r h54]; exact hl) (pm_ok_t hF.ok)))
        rw [List.map_cons, pm_cv_r h54]
        exact h
      · cases hs
  · cases hs
end PmS
