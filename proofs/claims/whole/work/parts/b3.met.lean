/-! the contract of the reference's constructor -/
def st_A (E0 : pm_E) (h0 sz : Nat) : Nat → Prop := fun q => (∃ c ∈ st_c, q = E0.1 c.1 c.2) ∨ q = h0 ∨ sz ≤ q
def st_w0 (E0 : pm_E) (h0 : Nat) (xs : Nat → Int32) (L : Int32) : va_W := st_wC E0 (st_M xs L) ++ [(h0, .inr (6, cz_d6))]
def st_B (D : va_G) (E0 : pm_E) (h0 sz : Nat) (xs : Nat → Int32) (L : Int32) (U : State) : Prop := U.heap.size = sz ∧ va_P D pm_cl (st_w0 E0 h0 xs L) U.heap ∧ va_D (fun _ => True) (st_w0 E0 h0 xs L) ∧ va_K D pm_cl (pm_tys E0) U ∧ cz_X U ∧ pm_St E0 (st_A E0 h0 sz) U U.heap
def st_P (xs : Nat → Int32) (L : Int32) (M' : pm_M) : Prop := (∀ t k, t ≠ 29 → t ≠ 30 → t ≠ 32 → t ≠ 33 → t ≠ 40 → M'.1 t k = (st_M xs L).1 t k) ∧ (∀ j, j < 4 → M'.1 40 0 j = -4) ∧ (∀ j, j < 45 → M'.1 30 0 j = fd j) ∧ M'.1 29 0 3 = 0 ∧ M'.1 29 0 4 = 0 ∧ (∀ j, j ≠ 3 → j ≠ 4 → j ≠ 6 → j ≠ 7 → j ≠ 8 → j ≠ 9 → j ≠ 11 → M'.1 29 0 j = (st_M xs L).1 29 0 j) ∧ (∀ j, j < 2 → M'.1 32 0 j = 0)
def st_Q (D : va_G) (E0 : pm_E) (h0 sz : Nat) (xs : Nat → Int32) (L : Int32) : Array Value → State → Outcome → State → Prop := va_Qv (fun u : (Nat → Nat) × pm_M => st_P xs L u.2) (fun u t => va_P D pm_cl (pm_wl (st_E E0 h0 u.1) u.2) t.heap ∧ va_D (st_A E0 h0 sz) (pm_wl (st_E E0 h0 u.1) u.2)) (st_A E0 h0 sz)
theorem st_St2 {E E' : pm_E} {A : Nat → Prop} {U : State} {H : Heap} (h : pm_St E A U H) (e1 : E'.1 51 0 = E.1 51 0) (e2 : E'.1 52 = E.1 52) (e3 : E'.1 53 = E.1 53) (e4 : E'.2.1 = E.2.1) : pm_St E' A U H := by
  unfold pm_St
  rw [e1, e2, e3, e4]
  exact h
theorem st_in0 {E0 : pm_E} {h0 : Nat} {xs : Nat → Int32} {L : Int32} {k : Nat} {q : Nat × va_E} (h : (st_wC E0 (st_M xs L))[k]? = some q) : (st_w0 E0 h0 xs L)[k]? = some q ∧ k < (st_wC E0 (st_M xs L)).length := by
  have hk : k < (st_wC E0 (st_M xs L)).length := (List.getElem?_eq_some_iff.mp h).1
  refine ⟨?_, hk⟩
  unfold st_w0
  rw [List.getElem?_append_left hk]
  exact h
theorem st_in1 (E0 : pm_E) (h0 : Nat) (xs : Nat → Int32) (L : Int32) : (st_w0 E0 h0 xs L)[(st_wC E0 (st_M xs L)).length]? = some (h0, .inr (6, cz_d6)) := by
  unfold st_w0
  simp
/-- the world behind the constructor's arrays -/
theorem st_world {D : va_G} {E0 : pm_E} {h0 : Nat} {xs : Nat → Int32} {L : Int32} {s : State} {H : Heap} {locs : List Loc} {u : Nat → Nat} (hP : va_P D pm_cl (st_w0 E0 h0 xs L) s.heap) (hD : va_D (fun _ => True) (st_w0 E0 h0 xs L)) (hw : cz_W D (va_A [(h0, .inr (6, cz_d6))] s.heap.size) s (cz_wMo E0.2.2 h0 u) H locs) : pm_Wd D (st_E E0 h0 u) (st_A E0 h0 s.heap.size) s xs L (st_M xs L) H locs := by
  have hA1 : ∀ q, va_A [(h0, .inr (6, cz_d6))] s.heap.size q → q = h0 ∨ s.heap.size ≤ q := by
    intro q h
    rcases h with ⟨k, e, h⟩ | h
    · left
      rcases k with _ | k
      · simp at h
        exact h.1.symm
      · simp at h
    · exact Or.inr h
  have hA2 : ∀ q, va_A [(h0, .inr (6, cz_d6))] s.heap.size q → st_A E0 h0 s.heap.size q := fun q h => Or.inr (hA1 q h)
  have out : ∀ (k : Nat) (q : Nat × va_E), (st_wC E0 (st_M xs L))[k]? = some q → q.1 < s.heap.size ∧ ¬ va_A [(h0, .inr (6, cz_d6))] s.heap.size q.1 := by
    intro k q hk
    obtain ⟨h1, h2⟩ := st_in0 (h0 := h0) hk
    have hlt := (hP k q h1).lt
    refine ⟨hlt, fun h => ?_⟩
    rcases hA1 _ h with h | h
    · have := hD.1 k _ q _ h1 (st_in1 E0 h0 xs L) h
      omega
    · omega
  have key : pm_wl (st_E E0 h0 u) (st_M xs L) = st_wC E0 (st_M xs L) ++ cz_wMo E0.2.2 h0 u := by rw [st_wl, st_wCE, st_tail]
  have hP1 : va_P D pm_cl (st_wC E0 (st_M xs L)) H := fun k q hk => (hP k q (st_in0 hk).1).kept (hw.2.2.2.1 _ (out k q hk).1 (out k q hk).2)
  have hD1 : va_D (st_A E0 h0 s.heap.size) (st_wC E0 (st_M xs L)) := by
    refine ⟨fun i j p q hi hj e => hD.1 i j p q (st_in0 hi).1 (st_in0 hj).1 e, fun k q hk => Or.inl ?_⟩
    unfold st_wC at hk
    rw [List.getElem?_map] at hk
    obtain ⟨c, h1, h2⟩ := Option.map_eq_some_iff.mp hk
    exact ⟨c, List.mem_of_getElem? h1, by rw [← h2]⟩
  refine ⟨?_, ?_, ⟨hw.2.2.1, fun q h1 h2 => hw.2.2.2.1 q h1 (fun h => h2 (hA2 q h)), fun q hq => hA2 _ (hw.2.2.2.2 q hq)⟩, rfl, rfl⟩
  · rw [key]
    exact hP1.app hw.1
  · rw [key]
    exact hD1.app (hw.2.1.weaken (fun _ _ _ h => hA2 _ h)) (fun i j p q hp hq e => (out i p hp).2 (by rw [e]; exact hw.2.1.2 j q hq))
set_option maxHeartbeats 4000000 in
theorem st_Mo (l : Launch) (D : va_G) (E0 : pm_E) (h0 sz : Nat) (xs : Nat → Int32) (L : Int32) : Met l mMo_init.2.1 (pm_ws mMo_init) cz_rMo (va_Pc [.ref h0] (st_B D E0 h0 sz xs L)) (st_Q D E0 h0 sz xs L) 14 732 (st_A E0 h0 sz) := by
  refine Met.ofW (cc := mMo_init.2.2.1) (maxL := 2) (ret := none) (by decide +kernel) rfl ?_
  intro p e s m args below meth c s₁ B hml hP
  obtain ⟨rfl, hsz, hP, hD, hK, hX, hSt⟩ := hP
  have hx := B.exec
  have hb := B.bytes
  have hr := B.returns
  have hts := atoms_spec (ws := pm_ws mMo_init) B.pre
  have hown : s.vm.findClass (pm_RN 6) = some m.cls := findClass_of_methodNamed B.named
  have hin : meth.name = "<init>" := (name_of_methodNamed B.named B.method).1
  subst hsz
  have hl := lv_entry ([.ref h0]) (n := 2) (Nat.le_of_ble_eq_true rfl)
  rw [lg_entry_eq]
  generalize (lg_sl ([.ref h0]) ++ List.replicate (2 - (lg_sl ([.ref h0])).length) Slot.unset).toArray = ls at hl ⊢
  have hl : lv_has ls 2 [(0, .ref h0)] := hl
  have C : cz_C p s m #[.ref h0] meth c mMo_init.2.2.1 2 6 D E0.2.2 (va_A [(h0, .inr (6, cz_d6))] s.heap.size) := ⟨hx, hb, hml, hown, fun w hw => hts w (List.mem_cons_of_mem _ hw), hK, fun q h => Or.inr h, hin, hX⟩
  have hw : cz_W D (va_A [(h0, .inr (6, cz_d6))] s.heap.size) s [(h0, .inr (6, cz_d6))] s.heap [] := by
    refine ⟨hP.sub (ws' := [(h0, .inr (6, cz_d6))]) [(st_wC E0 (st_M xs L)).length] ?_, (hD.sub (ws' := [(h0, .inr (6, cz_d6))]) [(st_wC E0 (st_M xs L)).length] rfl ?_).self, va_S.rf⟩
    · simp [st_in1]
    · simp [st_in1]
  refine st_walk C hw hl (fun u H locs hw => ?_)
  have hWd := st_world hP hD hw
  obtain ⟨M', hG, hM'⟩ := m_rest (st_M xs L)
  refine hG p l e cz_rMo s m #[.ref h0] below meth c 14 732 _ D (st_E E0 h0 u) (st_A E0 h0 s.heap.size) xs L ok_mMo_init.1 ⟨hx, hb, hml, hown, fun w hw => hts w (List.mem_cons_of_mem _ hw), hK, st_St2 hSt rfl rfl rfl rfl, ⟨by decide, by decide, by decide, by decide⟩, fun q h => Or.inr (Or.inr h), fun q => absurd q (by decide)⟩ ?_ H locs ls hWd ?_
  · intro pc' i st' v M2 H' locs' LS' hq ht hrt hW hst
    obtain ⟨hv, rfl⟩ : v = none ∧ M2 = M' := hq
    have hd := pm_tab_ok ok_mMo_init.1 ht
    cases i with
    | return_ =>
      obtain ⟨r1, rfl, r3⟩ := hrt
      exact W.vret hx hb hr (fun t ht hWm => ⟨⟨(u, M2), rfl, hM', by rw [ht]; exact hW.1, hW.2.1⟩, hW.2.2.1.F ht⟩) hW.2.2.1.2.2 hd
    | ireturn =>
      obtain ⟨ty, x, r1, r2, r3, r4⟩ := hrt
      rw [hv] at r3
      cases r3
    | lreturn =>
      obtain ⟨x, r1, r2, r3⟩ := hrt
      rw [hv] at r3
      cases r3
    | areturn =>
      obtain ⟨t, k, n, r1, r2, r3, r4⟩ := hrt
      rw [hv] at r3
      cases r3
    | _ => exact hrt.elim
  · refine ⟨hl.1, hl.2.1, rfl, fun i v hi => ?_, fun v hv => by cases hv⟩
    rcases i with _ | _ | i
    · simp at hi
      subst hi
      exact ⟨hl.2.2 _ List.mem_cons_self, show 0 < pm_cnt 29 by decide⟩
    · simp at hi
    · simp at hi
