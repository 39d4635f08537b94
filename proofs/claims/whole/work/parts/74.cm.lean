/-! constructors: rows over a world that grows -/
def cz_tys (cT : Nat → ClassId) : List (ClassId × FieldType) := [(cT 0, .int), (cT 1, .byte), (cT 2, .boolean), (cT 3, .object "WheelTickets$Wheel"), (cT 4, .object "WheelTickets$Sheet")]
def cz_W (D : va_G) (A : Nat → Prop) (s : State) (ws : va_W) (H : Heap) (locs : List Loc) : Prop := va_P D pm_cl ws H ∧ va_D A ws ∧ va_S A s.heap H locs
def cz_X (U : State) : Prop := va_AO "WheelTickets$Wheel" U ∧ va_AO "WheelTickets$Sheet" U ∧ ∀ w ∈ pm_nw, va_Nw w U
def cz_C (p : Program) (s : State) (m : MethodId) (args : Array Value) (meth : Method) (c : Code) (cc : ByteArray) (nL o : Nat) (D : va_G) (cT : Nat → ClassId) (A : Nat → Prop) : Prop :=
  p.tables.exec = Jvm.exec ∧ c.code = cc ∧ c.maxLocals = nL ∧ s.vm.findClass (pm_RN o) = some m.cls ∧ (∀ w ∈ pm_gw, w.before args s = true) ∧ va_K D pm_cl (cz_tys cT) s ∧ (∀ q, s.heap.size ≤ q → A q) ∧ meth.name = "<init>" ∧ cz_X s
theorem cz_oi : Cond.instanceMethod Lib.objectInit ∈ pm_gw ∧ Cond.code Lib.objectInit ⟨#[0xb1]⟩ 1 none ∈ pm_gw := ⟨pm_in (List.mem_of_getElem? (i := 22) (by decide +kernel)) (by decide +kernel), pm_in (List.mem_of_getElem? (i := 23) (by decide +kernel)) (by decide +kernel)⟩
section CM
variable {p : Program} {l : Launch} {e : Env} {R : Room} {s : State} {m : MethodId} {args : Array Value} {below : List Frame} {meth : Method} {c : Code} {H : Heap} {locs : List Loc} {cells slots : Nat} {Q : State → Prop}
variable {cc : ByteArray} {pc nL o : Nat} {ls : Array Slot} {rest : List Value} {D : va_G} {cT : Nat → ClassId} {A : Nat → Prop} {ws : va_W}
theorem cz_obj (C : cz_C p s m args meth c cc nL o D cT A) (hz : ls.size = nL) {idx a : Nat} (hl : Cond.methodLink (pm_RN o) idx Lib.objectInit ∈ pm_gw) (hd : decode cc pc = .ok (.invokespecial idx, 3)) (hR : 1 ≤ R.frames ∧ 12 ≤ R.locals) (kk : W p l e R s m args below meth c H locs cells slots Q (F0 m (pc + 3) ls [])) : W p l e R s m args below meth c H locs cells slots Q (F0 m pc ls [.ref a]) := by
  obtain ⟨hx, hb, hml, hown, hts, hK, hA, hin, hX⟩ := C
  refine W.objInit hx hb hown (hts _ hl) (hts _ cz_oi.1) (hts _ cz_oi.2) rfl (by rw [hml]; exact hz) rfl hd hR.1 hR.2 ?_
  exact kk
theorem cz_newarr (C : cz_C p s m args meth c cc nL o D cT A) (hw : cz_W D A s ws H locs) {atype : ArrayType} {ty : FieldType} (t0 : Nat) (hg : Cond.arrayClass ty ∈ pm_gw) (hty : newarray.typeOf atype = ty) (hid : ∀ cA : ClassId, va_RA s cA ty → cA = cT t0) {n : Int32} {N : Nat} (ha : ∀ cA : ClassId, vp_cell cA (N, .inl (fun _ => 0)) = arrV cA N (fun _ => defaultValue ty)) (hn : ¬ n < 0) (hN : n.toNatClampNeg = N) (hby : N * componentBytes ty ≤ 536870912) (hR : cells + 1 ≤ R.cells ∧ slots + N ≤ R.slots) (hd : decode cc pc = .ok (.newarray atype, 2)) (kk : ∀ (q : Nat) (H1 : Heap), cz_W D A s (ws ++ [(q, .inl (cT t0, N, .inl (fun _ => 0)))]) H1 locs → W p l e R s m args below meth c H1 locs (cells + 1) (slots + N) Q (F0 m (pc + 2) ls (.ref q :: rest))) : W p l e R s m args below meth c H locs cells slots Q (F0 m pc ls (.int n :: rest)) := by
  obtain ⟨hx, hb, hml, hown, hts, hK, hA, hin, hX⟩ := C
  refine va_newa hx hb (by rw [hty]; exact hts _ hg) hty hK hw.1 hw.2.1 hw.2.2 hA ha hn hN hby hR.1 hR.2 hd (fun q cA H1 hK1 hP hD hS => ?_)
  have e1 : cA = cT t0 := hid cA (hK1.2 5 (cA, ty) rfl).2
  subst e1
  exact kk q H1 ⟨hP, hD, hS⟩
theorem cz_newi (C : cz_C p s m args meth c cc nL o D cT A) (hw : cz_W D A s ws H locs) {n : Int32} (N : Nat) (hn : ¬ n < 0) (hN : n.toNatClampNeg = N) (hby : N ≤ 1000) (hR : cells + 1 ≤ R.cells ∧ slots + N ≤ R.slots) (hd : decode cc pc = .ok (.newarray .int, 2)) (kk : ∀ (q : Nat) (H1 : Heap), cz_W D A s (ws ++ [(q, .inl (cT 0, N, .inl (fun _ => 0)))]) H1 locs → W p l e R s m args below meth c H1 locs (cells + 1) (slots + N) Q (F0 m (pc + 2) ls (.ref q :: rest))) : W p l e R s m args below meth c H locs cells slots Q (F0 m pc ls (.int n :: rest)) :=
  cz_newarr C hw (ty := .int) 0 (pm_in (List.mem_of_getElem? (i := 77) (by decide +kernel)) (by decide +kernel)) rfl (fun cA h => Option.some.inj (Eq.trans (Eq.symm (show s.vm.findClass _ = some cA from h)) (show s.vm.findClass _ = some (cT 0) from (C.2.2.2.2.2.1.2 0 _ rfl).2))) (fun _ => rfl) hn hN (by show N * 4 ≤ _; omega) hR hd kk
theorem cz_newb (C : cz_C p s m args meth c cc nL o D cT A) (hw : cz_W D A s ws H locs) {n : Int32} (N : Nat) (hn : ¬ n < 0) (hN : n.toNatClampNeg = N) (hby : N ≤ 1000) (hR : cells + 1 ≤ R.cells ∧ slots + N ≤ R.slots) (hd : decode cc pc = .ok (.newarray .byte, 2)) (kk : ∀ (q : Nat) (H1 : Heap), cz_W D A s (ws ++ [(q, .inl (cT 1, N, .inl (fun _ => 0)))]) H1 locs → W p l e R s m args below meth c H1 locs (cells + 1) (slots + N) Q (F0 m (pc + 2) ls (.ref q :: rest))) : W p l e R s m args below meth c H locs cells slots Q (F0 m pc ls (.int n :: rest)) :=
  cz_newarr C hw (ty := .byte) 1 (pm_in (List.mem_of_getElem? (i := 150) (by decide +kernel)) (by decide +kernel)) rfl (fun cA h => Option.some.inj (Eq.trans (Eq.symm (show s.vm.findClass _ = some cA from h)) (show s.vm.findClass _ = some (cT 1) from (C.2.2.2.2.2.1.2 1 _ rfl).2))) (fun _ => rfl) hn hN (by show N * 1 ≤ _; omega) hR hd kk
theorem cz_newz (C : cz_C p s m args meth c cc nL o D cT A) (hw : cz_W D A s ws H locs) {n : Int32} (N : Nat) (hn : ¬ n < 0) (hN : n.toNatClampNeg = N) (hby : N ≤ 1000) (hR : cells + 1 ≤ R.cells ∧ slots + N ≤ R.slots) (hd : decode cc pc = .ok (.newarray .boolean, 2)) (kk : ∀ (q : Nat) (H1 : Heap), cz_W D A s (ws ++ [(q, .inl (cT 2, N, .inl (fun _ => 0)))]) H1 locs → W p l e R s m args below meth c H1 locs (cells + 1) (slots + N) Q (F0 m (pc + 2) ls (.ref q :: rest))) : W p l e R s m args below meth c H locs cells slots Q (F0 m pc ls (.int n :: rest)) :=
  cz_newarr C hw (ty := .boolean) 2 (pm_in (List.mem_of_getElem? (i := 912) (by decide +kernel)) (by decide +kernel)) rfl (fun cA h => Option.some.inj (Eq.trans (Eq.symm (show s.vm.findClass _ = some cA from h)) (show s.vm.findClass _ = some (cT 2) from (C.2.2.2.2.2.1.2 2 _ rfl).2))) (fun _ => rfl) hn hN (by show N * 1 ≤ _; omega) hR hd kk
theorem cz_newq (C : cz_C p s m args meth c cc nL o D cT A) (hw : cz_W D A s ws H locs) (t0 : Nat) {K : String} {idx : Nat} (hcl : Cond.classLink (pm_RN o) idx K ∈ pm_gw) (hover : va_AO K s) (ht : (cz_tys cT)[t0]? = some (cT t0, .object K)) {n : Int32} (N : Nat) (hn : ¬ n < 0) (hN : n.toNatClampNeg = N) (hby : N ≤ 1000) (hR : cells + 1 ≤ R.cells ∧ slots + N ≤ R.slots) (hd : decode cc pc = .ok (.anewarray idx, 3)) (kk : ∀ (q : Nat) (H1 : Heap), cz_W D A s (ws ++ [(q, .inl (cT t0, N, .inr (.inr (.inr (.inr (fun _ => none))))))]) H1 locs → W p l e R s m args below meth c H1 locs (cells + 1) (slots + N) Q (F0 m (pc + 3) ls (.ref q :: rest))) : W p l e R s m args below meth c H locs cells slots Q (F0 m pc ls (.int n :: rest)) := by
  obtain ⟨hx, hb, hml, hown, hts, hK, hA, hin, hX⟩ := C
  refine va_newq hx hb hown (hts _ hcl) hover hK hw.1 hw.2.1 hw.2.2 hA hn hN (by omega) hR.1 hR.2 hd (fun q cA H1 hK1 hP hD hS => ?_)
  have e1 : cA = cT t0 := by
    obtain ⟨k1, c1, -, -, -, f1⟩ := (hK1.2 5 (cA, .object K) rfl).2
    obtain ⟨k2, c2, -, -, -, f2⟩ := (hK.2 t0 _ ht).2
    exact Option.some.inj (f1.symm.trans f2)
  subst e1
  exact kk q H1 ⟨hP, hD, hS⟩
theorem cz_put (C : cz_C p s m args meth c cc nL o D cT A) (hw : cz_W D A s ws H locs) {idx ci kf a : Nat} (q0 : Nat) {fs : List Value} (hf : pm_fl o idx = some (ci, kf)) (he : ws[q0]? = some (a, .inr (ci, fs))) (hown : ci = o) {v : Value} (hn : narrow (pm_tN ci kf) v = v) (hfit : fits (pm_tN ci kf) v = true) (hlen : kf < fs.length) (hd : decode cc pc = .ok (.putfield idx, 3)) (kk : ∀ (H1 : Heap) (locs1 : List Loc), cz_W D A s (ws.set q0 (a, .inr (ci, fs.set kf v))) H1 locs1 → W p l e R s m args below meth c H1 locs1 cells slots Q (F0 m (pc + 3) ls rest)) : W p l e R s m args below meth c H locs cells slots Q (F0 m pc ls (v :: .ref a :: rest)) := by
  obtain ⟨hx, hb, hml, hownC, hts, hK, hA, hin, hX⟩ := C
  obtain ⟨hl1, h7, hkf⟩ := pm_fl_ok hf
  by_cases hfin : (pm_TN ci kf).2.2.2 = true
  · exact va_putF (D := D) (ci := ci) (v := v) (ty := pm_tN ci kf) (C := pm_RN ci) (T := pm_TN ci) (N := pm_NN ci) hx hb hts (pm_cw ci h7) (pm_tN ci) (pm_ty ci h7) (pm_nm ci h7) hownC hK hw.1 hw.2.1 hw.2.2 q0 he (pm_clat ci h7) kf hkf (hts _ hl1) (fun _ h => by rw [pm_TN1 ci h7 kf hkf] at h; exact h) hfin hin (by rw [pm_TN1 ci h7 kf hkf, hown]) (pm_ty ci h7 kf hkf) hn hfit hlen hd (fun H1 locs1 hP1 hD1 hS1 => kk H1 locs1 ⟨hP1, hD1, hS1⟩)
  · exact va_put (D := D) (ci := ci) (v := v) (ty := pm_tN ci kf) (C := pm_RN ci) (T := pm_TN ci) (N := pm_NN ci) hx hb hts (pm_cw ci h7) (pm_tN ci) (pm_ty ci h7) (pm_nm ci h7) hownC hK hw.1 hw.2.1 hw.2.2 q0 he (pm_clat ci h7) kf hkf (hts _ hl1) (fun _ h => by rw [pm_TN1 ci h7 kf hkf] at h; exact h) (by simpa using hfin) (pm_ty ci h7 kf hkf) hn hfit hlen hd (fun H1 locs1 hP1 hD1 hS1 => kk H1 locs1 ⟨hP1, hD1, hS1⟩)
theorem cz_get (C : cz_C p s m args meth c cc nL o D cT A) (hw : cz_W D A s ws H locs) {idx ci kf a : Nat} (q0 : Nat) {fs : List Value} (hf : pm_fl o idx = some (ci, kf)) (he : ws[q0]? = some (a, .inr (ci, fs))) {v : Value} (hv : fs[kf]? = some v) (hd : decode cc pc = .ok (.getfield idx, 3)) (kk : W p l e R s m args below meth c H locs cells slots Q (F0 m (pc + 3) ls (v :: rest))) : W p l e R s m args below meth c H locs cells slots Q (F0 m pc ls (.ref a :: rest)) := by
  obtain ⟨hx, hb, hml, hownC, hts, hK, hA, hin, hX⟩ := C
  obtain ⟨hl1, h7, hkf⟩ := pm_fl_ok hf
  exact va_get (D := D) (ci := ci) (v := v) (C := pm_RN ci) (T := pm_TN ci) (N := pm_NN ci) hx hb hts (pm_cw ci h7) hownC hK hw.1 q0 he (pm_clat ci h7) kf hkf (hts _ hl1) (fun _ h => by rw [pm_TN1 ci h7 kf hkf] at h; exact h) hv hd kk
theorem cz_new (C : cz_C p s m args meth c cc nL o D cT A) (hw : cz_W D A s ws H locs) {idx : Nat} (ci : Nat) (h7 : ci < 7) (fs : List Value) (hcl : Cond.classLink (pm_RN o) idx (pm_RN ci) ∈ pm_gw) (hins : Cond.instantiable (pm_RN ci) (pm_NN ci) ∈ pm_gw) (hini : Cond.initialized (pm_RN ci) ∈ pm_gw) (hfs : ∀ j, j < pm_NN ci → defaultValue (pm_tN ci j) = vp_V fs j) (hR : cells + 1 ≤ R.cells ∧ slots + pm_NN ci ≤ R.slots) (hd : decode cc pc = .ok (.new idx, 3)) (kk : ∀ (q : Nat) (H1 : Heap), cz_W D A s (ws ++ [(q, .inr (ci, fs))]) H1 locs → W p l e R s m args below meth c H1 locs (cells + 1) (slots + pm_NN ci) Q (F0 m (pc + 3) ls (.ref q :: rest))) : W p l e R s m args below meth c H locs cells slots Q (F0 m pc ls rest) := by
  obtain ⟨hx, hb, hml, hown, hts, hK, hA, hin, hX⟩ := C
  exact va_new (ci := ci) (fs := fs) (C := pm_RN ci) (T := pm_TN ci) (N := pm_NN ci) hx hb hts (pm_cw ci h7) (pm_tN ci) (pm_ty ci h7) hown (hts _ hcl) (hts _ hins) (hts _ hini) hK hw.1 hw.2.1 hw.2.2 hA (pm_clat ci h7) hfs hR.1 hR.2 hd (fun q H1 hP hD hS => kk q H1 ⟨hP, hD, hS⟩)
theorem cz_ast (C : cz_C p s m args meth c cc nL o D cT A) (hw : cz_W D A s ws H locs) (q0 t0 qk ci : Nat) (h7 : ci < 7) {a n v : Nat} {vs : List Value} {f : Nat → Option Nat} (ha : ws[q0]? = some (a, .inl (cT t0, n, .inr (.inr (.inr (.inr f)))))) (ht : (cz_tys cT)[t0]? = some (cT t0, .object (pm_RN ci))) (hv : ws[qk]? = some (v, .inr (ci, vs))) {i : Int32} (hin : vp_in i n) (hd : decode cc pc = .ok (.aastore, 1)) (kk : ∀ (H1 : Heap) (locs1 : List Loc), cz_W D A s (ws.set q0 (a, .inl (cT t0, n, .inr (.inr (.inr (.inr (va_up f i.toNatClampNeg (some v)))))))) H1 locs1 → W p l e R s m args below meth c H1 locs1 cells slots Q (F0 m (pc + 1) ls rest)) : W p l e R s m args below meth c H locs cells slots Q (F0 m pc ls (.ref v :: .int i :: .ref a :: rest)) := by
  obtain ⟨hx, hb, hml, hown, hts, hK, hA, hin9, hX⟩ := C
  exact va_astq (r := (pm_RN ci, pm_TN ci, pm_NN ci)) hx hb hK hw.1 hw.2.1 hw.2.2 q0 t0 qk ci ha ht hv (pm_clat ci h7) hin hd (fun H1 locs1 hP hD hS => kk H1 locs1 ⟨hP, hD, hS⟩)
end CM
-- contracts of constructors
def cz_Pre (D : va_G) (cT : Nat → ClassId) (w0 : va_W) (sz : Nat) (U : State) : Prop := U.heap.size = sz ∧ va_P D pm_cl w0 U.heap ∧ va_D (fun _ => True) w0 ∧ va_K D pm_cl (cz_tys cT) U ∧ cz_X U
def cz_Post (D : va_G) (w0 : va_W) (sz : Nat) (wf : (Nat → Nat) → va_W) : Array Value → State → Outcome → State → Prop := va_Qv (fun _ : Nat → Nat => True) (fun u t => va_P D pm_cl (wf u) t.heap ∧ va_D (va_A w0 sz) (wf u)) (va_A w0 sz)
def cz_Met (l : Launch) (mi : pm_MI) (rm : Room) (D : va_G) (cT : Nat → ClassId) (w0 : Nat → va_W) (wf : Nat → (Nat → Nat) → va_W) (mc ms : Nat) : Prop := ∀ h0 sz : Nat, Met l mi.2.1 (pm_ws mi) rm (va_Pc [.ref h0] (cz_Pre D cT (w0 h0) sz)) (cz_Post D (w0 h0) sz (wf h0)) mc ms (va_A (w0 h0) sz)
theorem cz_X.warm {s U : State} (hW : s.WarmedH U.vm) (h : cz_X s) : cz_X U := ⟨h.1.moved hW.alike, h.2.1.moved hW.alike, pm_nw_warm hW h.2.2⟩
theorem cz_X.blind {U : State} (g : JFrame) (mk : MethodId) (a : Array Value) (h : cz_X U) : cz_X (U.calling g mk a) := by
  have al : U.vm.Alike (U.calling g mk a).vm := Vm.Alike.refl U.vm
  refine ⟨h.1.moved al, h.2.1.moved al, fun w hw => ?_⟩
  have h9 := h.2.2 w hw
  refine va_Nw.same (u := U) (U := U.calling g mk a) ?_ rfl h9
  simp only [pm_nw, List.mem_cons, List.not_mem_nil, or_false] at hw
  rcases hw with rfl | rfl | rfl | rfl | rfl | rfl | rfl | rfl | rfl <;> rfl
theorem cz_blind {D : va_G} {cT : Nat → ClassId} {w0 : va_W} {sz : Nat} {av : List Value} : FrameBlind (va_Pc av (cz_Pre D cT w0 sz)) := by
  intro a U g mk q
  obtain ⟨q0, q1, qP, qD, qK, qX⟩ := q
  exact ⟨q0, q1, qP, qD, va_K.moved (u := U) (U := U.calling g mk a) (Vm.Alike.refl U.vm) qK, qX.blind g mk a⟩
theorem cz_range {wr : va_W} {x : Nat × va_E} : (List.range wr.length).map (fun i => (wr ++ [x])[i]?) = wr.map some := by
  apply List.ext_getElem?
  intro i
  simp only [List.getElem?_map]
  by_cases h : i < wr.length
  · rw [List.getElem?_range h]
    simp [List.getElem?_append_left h, List.getElem?_eq_getElem h]
  · have h1 : (List.range wr.length)[i]? = none := by simp; omega
    have h2 : wr[i]? = none := by simp; omega
    rw [h1, h2]
    rfl
theorem cz_nd : ∀ n, va_nd (List.range n) = true := by
  intro n
  have : ∀ l : List Nat, l.Nodup → va_nd l = true := by
    intro l h
    induction h with
    | nil => rfl
    | cons h1 h2 ih =>
      unfold va_nd
      simp [ih]
      intro h9
      exact h1 _ h9 rfl
  exact this _ List.nodup_range
section CM2
variable {p : Program} {l : Launch} {e : Env} {R : Room} {s : State} {m : MethodId} {args : Array Value} {below : List Frame} {meth : Method} {c : Code} {H : Heap} {locs : List Loc} {cells slots : Nat} {Q : State → Prop}
variable {cc : ByteArray} {pc nL o : Nat} {ls : Array Slot} {rest : List Value} {D : va_G} {cT : Nat → ClassId} {A : Nat → Prop} {ws : va_W}
/-- a constructor of a nest mate on the newest object -/
theorem cz_call (C : cz_C p s m args meth c cc nL o D cT A) {wr : va_W} {q : Nat} {x : va_E} (hw : cz_W D A s (wr ++ [(q, x)]) H locs) (hz : ls.size = nL) {mi : pm_MI} {rm : Room} {w0 : Nat → va_W} {wf : Nat → (Nat → Nat) → va_W} {mc ms idx : Nat} (hM : cz_Met l mi rm D cT w0 wf mc ms) (h0 : w0 q = [(q, x)]) (hok : pm_ok mi) (hnest : Cond.methodLinkNest (pm_RN o) idx mi.2.1 "WheelTickets" ∈ pm_nw) (hini : Cond.initialized mi.2.1.cls ∈ pm_gw) (hinst : Cond.instanceMethod mi.2.1 ∈ pm_gw) (hret : mi.2.2.2.2.1 = none) (hrm : rm.cells = mc ∧ rm.slots = ms) (hn : mi.2.1.name = "<init>" ∧ mi.2.1.cls ≠ "java/lang/invoke/MethodHandle" ∧ mi.2.1.cls ≠ "java/lang/invoke/VarHandle" ∧ (parseMethodDescriptor mi.2.1.desc).map (fun d => d.parameters.length) = some 0) (hR : rm.frames + 1 ≤ R.frames ∧ 8 + (mi.2.2.2.1 + 11) + rm.locals ≤ R.locals) (hct : (rest.map fun v => v.category).sum ≤ 8) (hd : decode cc pc = .ok (.invokespecial idx, 3)) (hf : cells + mc ≤ R.cells ∧ slots + ms ≤ R.slots)
    (kk : ∀ (u : Nat → Nat) (H1 : Heap) (locs1 : List Loc), cz_W D A s (wr ++ wf q u) H1 locs1 → W p l e R s m args below meth c H1 locs1 (cells + mc) (slots + ms) Q (F0 m (pc + 3) ls rest)) : W p l e R s m args below meth c H locs cells slots Q (F0 m pc ls (.ref q :: rest)) := by
  obtain ⟨hx, hb, hml, hown, hts, hK, hA, hin, hX⟩ := C
  have hC : [wr.length].map (fun i => (wr ++ [(q, x)])[i]?) = [(q, x)].map some := by simp
  have hPc := hw.1.sub (ws' := [(q, x)]) [wr.length] (by simp)
  have hDc := hw.2.1.sub (ws' := [(q, x)]) [wr.length] rfl hC
  have hFc := va_free (wc := [(q, x)]) hw.2.1 hw.2.2 hA [wr.length] hC
  have hMq := hM q H.size
  rw [h0] at hMq
  have hw9 : pm_ws mi = Cond.code mi.2.1 mi.2.2.1 mi.2.2.2.1 none :: pm_gw := by unfold pm_ws; rw [hret]
  refine va_callv (va_runIN (As := []) (rest := rest) ⟨hx, hb, hml, hown, hts⟩ hMq ⟨va_cnB 0 hts (pm_gws hok) hw9 hrm.1 hrm.2 (hX.2.2 _ hnest) (hts _ hini) hn.2 hR, hn.1, hts _ hinst⟩ ⟨cz_blind, fun U hU hW => ⟨rfl, by rw [hU], by rw [hU]; exact hPc, hDc.weaken (fun _ _ _ _ => trivial), va_K.moved hW.alike hK, hX.warm hW⟩⟩ rfl rfl hz rfl (lv_room hct) hd hf) hw.2.2 (fun q9 _ h => hFc q9 h) hFc (fun u t H1 locs1 ht hvm _ hB hz1 hk1 hS => ?_)
  obtain ⟨hP1, hD1⟩ := hB
  rw [ht] at hP1
  obtain ⟨hP, hD⟩ := va_join (wr := wr) (w1 := wf q u) hw.1 hw.2.1 [wr.length] (List.range wr.length) hC cz_range (cz_nd _) (fun i hi h => by
    have h1 := List.mem_range.mp hi
    have h2 : i = wr.length := by simpa using h
    omega) hk1 hFc hP1 hD1
  exact kk u H1 locs1 ⟨hP, hD, hS⟩
end CM2
set_option maxHeartbeats 4000000 in
/-- a constructor's contract out of its walk -/
theorem cz_Met_of {l : Launch} {mi : pm_MI} {rm : Room} {D : va_G} {cT : Nat → ClassId} {w0 : Nat → va_W} {wf : Nat → (Nat → Nat) → va_W} {mc ms : Nat} (hpl : plainName mi.2.1.cls = true) (hcl : mi.2.1.cls = pm_RN mi.1) (hnm : mi.2.1.name = "<init>") (hret : mi.2.2.2.2.1 = none) (h1 : 1 ≤ mi.2.2.2.1)
    (body : ∀ (p : Program) (e : Env) (s : State) (m : MethodId) (below : List Frame) (meth : Method) (c : Code) (A : Nat → Prop) (h0 : Nat) (ls : Array Slot), cz_C p s m #[.ref h0] meth c mi.2.2.1 mi.2.2.2.1 mi.1 D cT A → cz_W D A s (w0 h0) s.heap [] → lv_has ls mi.2.2.2.1 [(0, .ref h0)] →
      (∀ (pc : Nat) (ls : Array Slot) (H : Heap) (locs : List Loc) (u : Nat → Nat), cz_W D A s (wf h0 u) H locs → decode mi.2.2.1 pc = .ok (.return_, 1) → W p l e (headSpec (pm_ws mi) rm).room s m #[.ref h0] below meth c H locs mc ms (MQ below (cz_Post D (w0 h0) s.heap.size (wf h0)) #[.ref h0] s mc ms (va_A (w0 h0) s.heap.size)) (F0 m pc ls [])) →
      W p l e (headSpec (pm_ws mi) rm).room s m #[.ref h0] below meth c s.heap [] 0 0 (MQ below (cz_Post D (w0 h0) s.heap.size (wf h0)) #[.ref h0] s mc ms (va_A (w0 h0) s.heap.size)) (F0 m 0 ls [])) : cz_Met l mi rm D cT w0 wf mc ms := by
  intro h0 sz
  refine Met.ofW (cc := mi.2.2.1) (maxL := mi.2.2.2.1) (ret := mi.2.2.2.2.1) hpl rfl ?_
  intro p e s m args below meth c s₁ B hml hP
  obtain ⟨rfl, hsz, hP, hD, hK, hX⟩ := hP
  have hx := B.exec
  have hb := B.bytes
  have hr := B.returns
  have hts := atoms_spec (ws := pm_ws mi) B.pre
  have hown : s.vm.findClass mi.2.1.cls = some m.cls := findClass_of_methodNamed B.named
  have hlocks := B.notSynchronized
  have hin : meth.name = "<init>" := by rw [(name_of_methodNamed B.named B.method).1]; exact hnm
  subst hsz
  rw [hret] at hr
  have hl := lv_entry ([.ref h0]) (n := mi.2.2.2.1) h1
  rw [lg_entry_eq]
  generalize (lg_sl ([.ref h0]) ++ List.replicate (mi.2.2.2.1 - (lg_sl ([.ref h0])).length) Slot.unset).toArray = ls at hl ⊢
  have hA : ∀ q, s.heap.size ≤ q → va_A (w0 h0) s.heap.size q := fun q h => Or.inr h
  refine body p e s m below meth c (va_A (w0 h0) s.heap.size) h0 ls ⟨hx, hb, hml, by rw [← hcl]; exact hown, fun w hw => hts w (List.mem_cons_of_mem _ hw), hK, hA, hin, hX⟩ ⟨hP, hD.self, va_S.rf⟩ hl (fun pc ls H locs u hw hd => ?_)
  exact W.vret hx hb hr (fun t ht _ => ⟨⟨u, rfl, trivial, by rw [ht]; exact hw.1, hw.2.1⟩, hw.2.2.F ht⟩) hw.2.2.2.2 hd
