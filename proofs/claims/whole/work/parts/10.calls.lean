/-! calls -/
def pm_ct (v : pm_V) : Nat := if pm_is1 v = true then 1 else 2
theorem pm_cts {E : pm_E} (hE : E.2.1.category = 1) (st : List pm_V) : ((st.map (pm_cv E)).map fun v => v.category) = st.map pm_ct := by
  rw [List.map_map]
  apply List.map_congr_left
  intro v _
  unfold pm_ct
  by_cases h : pm_is1 v = true
  · simp [h, pm_cat hE h]
  · simp [h, pm_cat2 h]
theorem pm_A_sub {E : pm_E} {M : pm_M} {A : Nat → Prop} {s : State} {H : Heap} {locs : List Loc} (hA : ∀ q, s.heap.size ≤ q → A q) (hD : va_D A (pm_wl E M)) (hS : va_S A s.heap H locs) : ∀ q, pm_A E H.size q → A q := by
  intro q hq
  rcases hq with ⟨c, hc, rfl⟩ | h
  · exact pm_A_in hD hc
  · exact hA q (Nat.le_trans hS.1 h)
theorem pm_blind {D : va_G} {E : pm_E} {sz : Nat} {M : pm_M} {av : List Value} : FrameBlind (va_Pc av (pm_B D E sz M)) := by
  intro a U g mk q
  obtain ⟨q0, q1, qP, qD, qK, qS⟩ := q
  exact ⟨q0, q1, qP, qD, va_K.moved (u := U) (U := U.calling g mk a) (Vm.Alike.refl U.vm) qK, qS.blind g mk a⟩
section PmC
variable {p : Program} {l : Launch} {e : Env} {R : Room} {s : State} {m : MethodId} {args : Array Value} {below : List Frame} {meth : Method} {c : Code} {cells slots : Nat} {Z : State → Prop} {D : va_G} {E : pm_E} {A : Nat → Prop} {xs : Nat → Int32} {L : Int32} {M : pm_M} {H : Heap} {locs : List Loc} {pc : Nat} {LS : Array Slot} {st0 rest : List Value} {Q : Option pm_V → pm_M → Prop} {a : Array Value}
theorem pm_atU (hA : ∀ q, s.heap.size ≤ q → A q) (hK : va_K D pm_cl (pm_tys E) s) (hSt : pm_St E A s s.heap) (hW : pm_Wd D E A s xs L M H locs) {U : State} (hU : U.heap = H) (hWm : s.WarmedH U.vm) : pm_B D E H.size M U := by
  refine ⟨by rw [hU], by rw [hU]; exact hW.1, pm_D_A hW.2.1, va_K.moved hWm.alike hK, ?_⟩
  rw [hU]
  exact ((hSt.warm hWm).kept hW.2.2.1.2.1).narrow (pm_A_sub hA hW.2.1 hW.2.2.1)
theorem pm_back (hA : ∀ q, s.heap.size ≤ q → A q) (hW : pm_Wd D E A s xs L M H locs) (hr : va_Run p l e R s m args below meth c H locs cells slots 0 0 (F0 m pc LS st0) rest (pm_Q D E H.size xs L Q a) (pm_A E H.size))
    (kk : ∀ (v : Option pm_V) (M' : pm_M) (H' : Heap) (locs' : List Loc), Q v M' → (∀ w, v = some w → pm_okv w) → pm_Wd D E A s xs L M' H' locs' → W p l e R s m args below meth c H' locs' cells slots Z (F0 m (pc + 3) LS ((v.map (pm_cv E)).toList ++ rest))) : W p l e R s m args below meth c H locs cells slots Z (F0 m pc LS st0) := by
  intro T hT X
  obtain ⟨v9, st₀, t, T', L9, h0, X', hL, e1, e2, ⟨⟨v, M', hv, hq, hw, hP, x1, x2⟩, hz, hk⟩, st⟩ := hr T hT X
  cases hv
  rw [h0] at hz hk
  have hAs := pm_A_sub hA hW.2.1 hW.2.2.1
  have hS := hW.2.2.1
  obtain ⟨t2, a1, b1⟩ := kk v M' T'.heap (locs ++ L9) hq hw ⟨by rw [e1]; exact hP, pm_D_any hW.2.1, ⟨Nat.le_trans hS.1 (by rw [e1]; exact hz), fun q h1 h2 => by rw [e1, hk q (Nat.lt_of_lt_of_le h1 hS.1) (fun z => h2 (hAs q z))]; exact hS.2.1 q h1 h2, fun q hq => by
      rcases List.mem_append.mp hq with h | h
      · exact hS.2.2 q h
      · exact hAs _ (hL q h)⟩, x1, x2⟩ T' rfl X'
  exact ⟨t2, st t2 a1, b1⟩
end PmC
/-- a link to an instance method -/
def pm_LV (o idx : Nat) (mc : pm_MI) (n : Nat) : Prop := (Cond.methodLink (pm_RN o) idx mc.2.1 ∈ pm_gw ∧ Cond.instanceMethod mc.2.1 ∈ pm_gw ∧ Cond.selects mc.2.1.cls mc.2.1 mc.2.1 ∈ pm_gw ∧ Cond.initialized mc.2.1.cls ∈ pm_gw) ∧ (mc.2.1.cls ≠ "java/lang/invoke/MethodHandle" ∧ mc.2.1.cls ≠ "java/lang/invoke/VarHandle" ∧ (parseMethodDescriptor mc.2.1.desc).map (fun d => d.parameters.length) = some n) ∧ mc.2.1.cls = pm_RN mc.1 ∧ pm_ok mc
def pm_LS (o idx : Nat) (mc : pm_MI) (n : Nat) : Prop := (Cond.methodLink (pm_RN o) idx mc.2.1 ∈ pm_gw ∧ Cond.static mc.2.1 ∈ pm_gw ∧ Cond.initialized mc.2.1.cls ∈ pm_gw) ∧ (mc.2.1.cls ≠ "java/lang/invoke/MethodHandle" ∧ mc.2.1.cls ≠ "java/lang/invoke/VarHandle" ∧ (parseMethodDescriptor mc.2.1.desc).map (fun d => d.parameters.length) = some n) ∧ pm_ok mc
def pm_LN (o idx : Nat) (mc : pm_MI) (n : Nat) : Prop := (Cond.methodLinkNest (pm_RN o) idx mc.2.1 "WheelTickets" ∈ pm_nw ∧ Cond.static mc.2.1 ∈ pm_gw ∧ Cond.initialized mc.2.1.cls ∈ pm_gw) ∧ (mc.2.1.cls ≠ "java/lang/invoke/MethodHandle" ∧ mc.2.1.cls ≠ "java/lang/invoke/VarHandle" ∧ (parseMethodDescriptor mc.2.1.desc).map (fun d => d.parameters.length) = some n) ∧ pm_ok mc
def pm_rcv (t : Nat) (mc : pm_MI) : Bool := match pm_sh t with
  | some (.inl (ci, _)) => ci == mc.1
  | some _ => false
  | none => t == 52 && mc.1 == 8
theorem pm_gws {mc : pm_MI} (h : pm_ok mc) : GoodIn pm_gw (pm_ws mc) := by
  intro w hw
  rcases List.mem_cons.mp hw with rfl | h1
  · exact pm_gg _ h.2
  · exact pm_gg _ h1
/-- there is room for the call -/
def pm_fit (mi mc : pm_MI) : Bool := decide (mc.2.2.2.2.2.2.1 + 1 ≤ mi.2.2.2.2.2.2.1) && decide (8 + (mc.2.2.2.1 + 11) + mc.2.2.2.2.2.2.2 ≤ mi.2.2.2.2.2.2.2)
section PmD
variable {mi mc : pm_MI} {pc idx n : Nat} {ls : pm_L} {as st stk : List pm_V} {M : pm_M} {Q Qc : Option pm_V → pm_M → Prop} {t k : Nat}
set_option maxHeartbeats 4000000 in
theorem pm_G_callV (hl : pm_LV mi.1 idx mc n) (ht : pm_tab mi pc = some (.invokevirtual idx)) (hs : stk = as.reverse ++ pm_r t k :: st) (hn : as.length = n) (hrc : pm_rcv t mc = true) (hct : (st.map pm_ct).sum ≤ 8) (hR : pm_fit mi mc = true) (h : pm_Sem mc (pm_r t k :: as) M Qc) (kk : ∀ v M', Qc v M' → pm_G mi (pc + 3) ls (v.toList ++ st) M' Q) : pm_G mi pc ls stk M Q := by
  subst hs
  intro p l e R s m args below meth c cells slots Z D E A xs L hok C hZ H locs LS hW hF
  have hd := pm_tab_ok hok ht
  have C0 := C
  obtain ⟨hx, hb, hml, hown, hts, hK, hSt, ⟨r1, r2, r3, r4⟩, hA, hX⟩ := C
  have hE := hSt.cat
  obtain ⟨⟨w1, w2, w3, w4⟩, hnm, hcl, hokc⟩ := hl
  simp only [pm_fit, Bool.and_eq_true, decide_eq_true_eq] at hR
  have okst : ∀ v ∈ pm_r t k :: as, pm_okv v := by
    intro v hv
    refine hF.ok v ?_
    rcases List.mem_cons.mp hv with rfl | h9
    · exact List.mem_append_right _ List.mem_cons_self
    · exact List.mem_append_left _ (List.mem_reverse.mpr h9)
  have hk : k < pm_cnt t := okst _ List.mem_cons_self
  have h54 : t ≠ 54 := by
    rintro rfl
    simp [pm_rcv, pm_sh] at hrc
  have hM := h l D E H.size xs L okst hW.2.2.2.1 hW.2.2.2.2
  rw [List.map_cons, pm_cv_r h54] at hM
  have hG : GoodIn pm_gw (wsV (pm_RN mi.1) idx mc.2.1.cls mc.2.1 (pm_ws mc)) := by
    intro w hw
    unfold wsV at hw
    rcases List.mem_append.mp hw with h1 | h1
    · simp only [List.mem_cons, List.not_mem_nil, or_false] at h1
      rcases h1 with rfl | rfl | rfl | rfl
      · exact pm_gg _ w1
      · exact pm_gg _ w2
      · exact pm_gg _ w3
      · exact pm_gg _ w4
    · exact pm_gws hokc w h1
  have hrecv : ∃ cellB : Cell, H[E.1 t k]? = some cellB ∧ cellB.vm.isStatics = false ∧ s.vm.findClass mc.2.1.cls = some cellB.cls := by
    unfold pm_rcv at hrc
    split at hrc
    · rename_i ci fs hsh
      have hci : ci = mc.1 := by simpa using hrc
      obtain ⟨j, hj, -⟩ := pm_at E M (pm_sh_lt hsh) hk
      have hent : pm_ent E M t k = .inr (ci, fs.mapIdx (fun i f => pm_fv E M t k i f)) := by unfold pm_ent; rw [hsh]
      rw [hent] at hj
      have := va_recv hK hW.1 (pm_clat ci (pm_obj hsh).1) hj
      rw [hcl, ← hci]
      exact this
    · cases hrc
    · have h52 : t = 52 ∧ mc.1 = 8 := by simpa using hrc
      obtain ⟨rfl, h8⟩ := h52
      rw [hcl, h8]
      exact vk_recv hSt.2.2.2.2.2.2.1 hk hW.2.2.1
  have hrun := va_runV (p := p) (l := l) (e := e) (R := R) (s := s) (m := m) (args := args) (below := below) (meth := meth) (c := c) (H := H) (locs := locs) (cells := cells) (slots := slots) (b := E.1 t k) (As := as.map (pm_cv E)) (rest := st.map (pm_cv E)) (g := F0 m pc LS ((as.reverse ++ pm_r t k :: st).map (pm_cv E))) (Ts := pm_gw) ⟨hx, hb, hml, hown, hts⟩ hM (cwV (ws' := pm_gw) n hts hG rfl rfl rfl ⟨rfl, hnm.1, hnm.2.1, hnm.2.2⟩ ⟨Nat.le_trans hR.1 r1, Nat.le_trans hR.2 r2⟩) ⟨pm_blind, hrecv, fun U hU hWm => ⟨rfl, pm_atU hA hK hSt hW hU hWm⟩⟩ rfl (by simp [hn]) hF.1 (by simp [pm_cv, h54]) (lv_room (by rw [pm_cts hE]; exact hct)) hd ⟨r3, r4⟩
  refine pm_back hA hW hrun (fun v M' H' locs' hq hw hW' => ?_)
  have := kk v M' hq p l e R s m args below meth c cells slots Z D E A xs L hok C0 hZ H' locs' LS hW' (hF.stk ?_)
  · rw [List.map_append] at this
    cases v <;> exact this
  · intro w hw9
    rcases List.mem_append.mp hw9 with h1 | h1
    · cases v with
      | none => cases h1
      | some v => simp at h1; subst h1; exact hw _ rfl
    · exact hF.ok w (List.mem_append_right _ (List.mem_cons_of_mem _ h1))
set_option maxHeartbeats 4000000 in
theorem pm_G_callS (hl : pm_LS mi.1 idx mc n) (ht : pm_tab mi pc = some (.invokestatic idx)) (hs : stk = as.reverse ++ st) (hn : as.length = n) (hct : (st.map pm_ct).sum ≤ 8) (hR : pm_fit mi mc = true) (h : pm_Sem mc as M Qc) (kk : ∀ v M', Qc v M' → pm_G mi (pc + 3) ls (v.toList ++ st) M' Q) : pm_G mi pc ls stk M Q := by
  subst hs
  intro p l e R s m args below meth c cells slots Z D E A xs L hok C hZ H locs LS hW hF
  have hd := pm_tab_ok hok ht
  have C0 := C
  obtain ⟨hx, hb, hml, hown, hts, hK, hSt, ⟨r1, r2, r3, r4⟩, hA, hX⟩ := C
  have hE := hSt.cat
  obtain ⟨⟨w1, w2, w4⟩, hnm, hokc⟩ := hl
  simp only [pm_fit, Bool.and_eq_true, decide_eq_true_eq] at hR
  have okst : ∀ v ∈ as, pm_okv v := fun v hv => hF.ok v (List.mem_append_left _ (List.mem_reverse.mpr hv))
  have hM := h l D E H.size xs L okst hW.2.2.2.1 hW.2.2.2.2
  have hG : GoodIn pm_gw (va_wsS (pm_RN mi.1) idx mc.2.1 (pm_ws mc)) := by
    intro w hw
    unfold va_wsS at hw
    rcases List.mem_append.mp hw with h1 | h1
    · simp only [List.mem_cons, List.not_mem_nil, or_false] at h1
      rcases h1 with rfl | rfl | rfl
      · exact pm_gg _ w1
      · exact pm_gg _ w2
      · exact pm_gg _ w4
    · exact pm_gws hokc w h1
  have hrun := va_runS (p := p) (l := l) (e := e) (R := R) (s := s) (m := m) (args := args) (below := below) (meth := meth) (c := c) (H := H) (locs := locs) (cells := cells) (slots := slots) (As := as.map (pm_cv E)) (rest := st.map (pm_cv E)) (g := F0 m pc LS ((as.reverse ++ st).map (pm_cv E))) (Ts := pm_gw) ⟨hx, hb, hml, hown, hts⟩ hM (va_cwS (ws' := pm_gw) n hts hG rfl rfl rfl hnm ⟨Nat.le_trans hR.1 r1, Nat.le_trans hR.2 r2⟩) ⟨pm_blind, fun U hU hWm => ⟨rfl, pm_atU hA hK hSt hW hU hWm⟩⟩ rfl (by simp [hn]) hF.1 (by simp) (lv_room (by rw [pm_cts hE]; exact hct)) hd ⟨r3, r4⟩
  refine pm_back hA hW hrun (fun v M' H' locs' hq hw hW' => ?_)
  have := kk v M' hq p l e R s m args below meth c cells slots Z D E A xs L hok C0 hZ H' locs' LS hW' (hF.stk ?_)
  · rw [List.map_append] at this
    cases v <;> exact this
  · intro w hw9
    rcases List.mem_append.mp hw9 with h1 | h1
    · cases v with
      | none => cases h1
      | some v => simp at h1; subst h1; exact hw _ rfl
    · exact hF.ok w (List.mem_append_right _ h1)
set_option maxHeartbeats 4000000 in
theorem pm_G_callN (hl : pm_LN mi.1 idx mc n) (ht : pm_tab mi pc = some (.invokestatic idx)) (hs : stk = as.reverse ++ st) (hn : as.length = n) (hct : (st.map pm_ct).sum ≤ 8) (hR : pm_fit mi mc = true) (h : pm_Sem mc as M Qc) (kk : ∀ v M', Qc v M' → pm_G mi (pc + 3) ls (v.toList ++ st) M' Q) : pm_G mi pc ls stk M Q := by
  subst hs
  intro p l e R s m args below meth c cells slots Z D E A xs L hok C hZ H locs LS hW hF
  have hd := pm_tab_ok hok ht
  have C0 := C
  obtain ⟨hx, hb, hml, hown, hts, hK, hSt, ⟨r1, r2, r3, r4⟩, hA, hX⟩ := C
  have hE := hSt.cat
  obtain ⟨⟨w1, w2, w4⟩, hnm, hokc⟩ := hl
  simp only [pm_fit, Bool.and_eq_true, decide_eq_true_eq] at hR
  have okst : ∀ v ∈ as, pm_okv v := fun v hv => hF.ok v (List.mem_append_left _ (List.mem_reverse.mpr hv))
  have hM := h l D E H.size xs L okst hW.2.2.2.1 hW.2.2.2.2
  have hrun := va_runSN (p := p) (l := l) (e := e) (R := R) (s := s) (m := m) (args := args) (below := below) (meth := meth) (c := c) (H := H) (locs := locs) (cells := cells) (slots := slots) (As := as.map (pm_cv E)) (rest := st.map (pm_cv E)) (g := F0 m pc LS ((as.reverse ++ st).map (pm_cv E))) (Ts := pm_gw) ⟨hx, hb, hml, hown, hts⟩ hM ⟨va_cnB (ws' := pm_gw) n hts (pm_gws hokc) rfl rfl rfl (hSt.1 _ w1) (hts _ w4) hnm ⟨Nat.le_trans hR.1 r1, Nat.le_trans hR.2 r2⟩, hts _ w2, trivial⟩ ⟨pm_blind, fun U hU hWm => ⟨rfl, pm_atU hA hK hSt hW hU hWm⟩⟩ rfl (by simp [hn]) hF.1 (by simp) (lv_room (by rw [pm_cts hE]; exact hct)) hd ⟨r3, r4⟩
  refine pm_back hA hW hrun (fun v M' H' locs' hq hw hW' => ?_)
  have := kk v M' hq p l e R s m args below meth c cells slots Z D E A xs L hok C0 hZ H' locs' LS hW' (hF.stk ?_)
  · rw [List.map_append] at this
    cases v <;> exact this
  · intro w hw9
    rcases List.mem_append.mp hw9 with h1 | h1
    · cases v with
      | none => cases h1
      | some v => simp at h1; subst h1; exact hw _ rfl
    · exact hF.ok w (List.mem_append_right _ h1)
theorem pm_w_acl : Cond.methodLink "WheelTickets$Wheel" 49 arraycopyName ∈ pm_gw := pm_in (List.mem_of_getElem? (i := 441) (by decide +kernel)) (by decide +kernel)
theorem pm_w_acs : Cond.static arraycopyName ∈ pm_gw := pm_in (List.mem_of_getElem? (i := 442) (by decide +kernel)) (by decide +kernel)
theorem pm_w_acn : Cond.native arraycopyName ∈ pm_gw := pm_in (List.mem_of_getElem? (i := 443) (by decide +kernel)) (by decide +kernel)
theorem pm_w_sys : Cond.initialized "java/lang/System" ∈ pm_gw := pm_in (List.mem_of_getElem? (i := 13) (by decide +kernel)) (by decide +kernel)
set_option maxHeartbeats 4000000 in
/-- System.arraycopy of ints, from the start -/
theorem pm_G_copy {t0 k0 t1 k1 n0 n1 : Nat} {z : Int32} (h4 : mi.1 = 4) (ht : pm_tab mi pc = some (.invokestatic 49)) (hs0 : pm_sh t0 = some (.inr (.inl (0, n0)))) (hs1 : pm_sh t1 = some (.inr (.inl (0, n1)))) (hz : ¬ z < 0) (hn0 : z.toNatClampNeg ≤ n0) (hn1 : z.toNatClampNeg ≤ n1) (hct : (st.map pm_ct).sum ≤ 8) (hR : 1 ≤ mi.2.2.2.2.2.2.1 ∧ 8 + 18 ≤ mi.2.2.2.2.2.2.2) (kk : pm_G mi (pc + 3) ls st (pm_set M t1 k1 (va_cpy (M.1 t0 k0) (M.1 t1 k1) 0 0 z.toNatClampNeg)) Q) : pm_G mi pc ls (pm_i z :: pm_i 0 :: pm_r t1 k1 :: pm_i 0 :: pm_r t0 k0 :: st) M Q := by
  intro p l e R s m args below meth c cells slots Z D E A xs L hok C hZ H locs LS hW hF
  have hd := pm_tab_ok hok ht
  have C0 := C
  obtain ⟨hx, hb, hml, hown, hts, hK, hSt, ⟨r1, r2, r3, r4⟩, hA, hX⟩ := C
  have hE := hSt.cat
  have l0 := pm_sh_lt hs0
  have l1 := pm_sh_lt hs1
  have ok := hF.ok
  have hk1 : k1 < pm_cnt t1 := pm_ok_h (pm_ok_t (pm_ok_t ok))
  have hk0 : k0 < pm_cnt t0 := pm_ok_h (pm_ok_t (pm_ok_t (pm_ok_t (pm_ok_t ok))))
  obtain ⟨j0, hj0, -⟩ := pm_at E M l0 hk0
  obtain ⟨j1, hj1, hset⟩ := pm_at E M l1 hk1
  have e0 : pm_ent E M t0 k0 = .inl (E.2.2 0, n0, .inl (M.1 t0 k0)) := by unfold pm_ent; rw [hs0]
  have e1 : ∀ M : pm_M, pm_ent E M t1 k1 = .inl (E.2.2 0, n1, .inl (M.1 t1 k1)) := fun M => by unfold pm_ent; rw [hs1]
  rw [e0] at hj0
  rw [e1] at hj1
  rw [h4] at hown
  simp only [List.map_cons]
  rw [pm_cv_r (show t1 ≠ 54 by omega), pm_cv_r (show t0 ≠ 54 by omega)]
  refine va_copyi hx hb (hml.trans hF.1.symm) hown (hts _ pm_w_acl) (hts _ pm_w_acn) (hts _ pm_w_acs) (hts _ pm_w_sys) hK hW.1 hW.2.1 hW.2.2.1 j0 j1 0 0 hj0 hj1 (ty := .int) rfl rfl rfl (by decide) (by decide) hz (by simpa using hn0) (by simpa using hn1) (fun _ _ => rfl) (Nat.le_trans hR.1 r1) ?_ hd (fun H1 locs1 hP1 hD1 hS1 => ?_)
  · rw [pm_cts hE]
    have h18 : nativeFrameWords "java/lang/System" "arraycopy" 5 + 11 = 18 := by decide +kernel
    rw [h18]
    exact Nat.le_trans (Nat.add_le_add_right hct 18) (Nat.le_trans hR.2 r2)
  · have q1 := hset (pm_set M t1 k1 (va_cpy (M.1 t0 k0) (M.1 t1 k1) 0 0 z.toNatClampNeg)) pm_ent_set
    rw [e1, pm_set_at] at q1
    have z0 : (0 : Int32).toNatClampNeg = 0 := by decide
    rw [z0, q1] at hP1
    exact kk p l e R s m args below meth c cells slots Z D E A xs L hok C0 hZ H1 locs1 LS (hW.set hP1 hS1 (pm_set_ne _ _ (by omega)) (by rw [pm_set_ne _ _ (by omega)])) (hF.stk (pm_ok_t (pm_ok_t (pm_ok_t (pm_ok_t (pm_ok_t ok))))))
/-- where a switch goes -/
def pm_tsw (pc : Nat) (d lo hi : Int) (offs : Array Int) (x : Int32) : Nat := if x.toInt < lo ∨ hi < x.toInt then pm_tg pc d else pm_tg pc (offs.getD (x.toInt - lo).toNat 0)
theorem pm_G_tsw {d lo hi : Int} {offs : Array Int} {x : Int32} (ht : pm_tab mi pc = some (.tableswitch d lo hi offs)) (hsz : (hi - lo + 1).toNat = offs.size) (h0 : 0 ≤ (pc : Int) + d) (h1 : offs.all (fun o => decide (0 ≤ (pc : Int) + o)) = true) (kk : pm_G mi (pm_tsw pc d lo hi offs x) ls st M Q) : pm_G mi pc ls (pm_i x :: st) M Q := by
  intro p l e R s m args below meth c cells slots Z D E A xs L hok C hZ H locs LS hW hF
  have hd := pm_tab_ok hok ht
  have kk := kk p l e R s m args below meth c cells slots Z D E A xs L hok C hZ H locs LS hW (hF.stk (pm_ok_t hF.ok))
  obtain ⟨hx, hb, -⟩ := C
  unfold pm_tsw at kk
  by_cases h : x.toInt < lo ∨ hi < x.toInt
  · rw [if_pos h] at kk
    exact lv_tableOut hx hb hd h (pm_tgt h0) kk
  · rw [if_neg h] at kk
    have hlt : (x.toInt - lo).toNat < offs.size := by omega
    rw [Array.getD_eq_getD_getElem?, Array.getElem?_eq_getElem hlt] at kk
    have ha := Array.all_eq_true.mp h1 _ hlt
    simp only [decide_eq_true_eq] at ha
    exact lv_tableIn hx hb hd (fun q => h (Or.inl q)) (fun q => h (Or.inr q)) (Array.getElem?_eq_getElem hlt) (pm_tgt ha) kk
theorem pm_G_lsw {d : Int} {ps : Array (Int × Int)} {x : Int32} (ht : pm_tab mi pc = some (.lookupswitch d ps)) (hp : (ps.toList.zip (ps.toList.drop 1)).all (fun (a, next) => a.1 < next.1) = true) (h0 : 0 ≤ (pc : Int) + Op.lookupswitch.offset ps.toList d x.toInt) (kk : pm_G mi (pm_tg pc (Op.lookupswitch.offset ps.toList d x.toInt)) ls st M Q) : pm_G mi pc ls (pm_i x :: st) M Q := by
  intro p l e R s m args below meth c cells slots Z D E A xs L hok C hZ H locs LS hW hF
  have hd := pm_tab_ok hok ht
  have kk := kk p l e R s m args below meth c cells slots Z D E A xs L hok C hZ H locs LS hW (hF.stk (pm_ok_t hF.ok))
  obtain ⟨hx, hb, -⟩ := C
  exact lv_lookup hx hb hd hp rfl (pm_tgt h0) kk
end PmD
