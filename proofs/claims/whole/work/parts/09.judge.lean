/-! the judgements: pm_G within a method, pm_Sem of a whole call -/
def pm_rt (ret : Option FieldType) (i : Instr) (st : List pm_V) (v : Option pm_V) : Prop := match i with
  | .return_ => ret = none ∧ st = [] ∧ v = none
  | .ireturn => ∃ (ty : FieldType) (x : Int32), ret = some ty ∧ st = [pm_i x] ∧ v = some (pm_i x) ∧ narrow ty (.int x) = .int x
  | .lreturn => ∃ x : Int64, ret = some .long ∧ st = [pm_l x] ∧ v = some (pm_l x)
  | .areturn => ∃ (t k : Nat) (n : String), ret = some (.object n) ∧ st = [pm_r t k] ∧ v = some (pm_r t k) ∧ t ≠ 54
  | _ => False
def pm_G (mi : pm_MI) (pc : Nat) (ls : pm_L) (st : List pm_V) (M : pm_M) (Q : Option pm_V → pm_M → Prop) : Prop :=
  ∀ (p : Program) (l : Launch) (e : Env) (R : Room) (s : State) (m : MethodId) (args : Array Value) (below : List Frame) (meth : Method) (c : Code) (cells slots : Nat) (Z : State → Prop) (D : va_G) (E : pm_E) (A : Nat → Prop) (xs : Nat → Int32) (L : Int32),
    pm_ok0 mi → pm_Cx mi p R s m args c cells slots D E A xs L →
    (∀ (pc' : Nat) (i : Instr) (st' : List pm_V) (v : Option pm_V) (M' : pm_M) (H' : Heap) (locs' : List Loc) (LS' : Array Slot), Q v M' → pm_tab mi pc' = some i → pm_rt mi.2.2.2.2.1 i st' v → pm_Wd D E A s xs L M' H' locs' → (∀ w ∈ st', pm_okv w) → W p l e R s m args below meth c H' locs' cells slots Z (F0 m pc' LS' (st'.map (pm_cv E)))) →
    pm_J p l e R s m args below meth c cells slots Z D E A xs L mi.2.2.2.1 pc ls st M
def pm_ws (mi : pm_MI) : List Cond := Cond.code mi.2.1 mi.2.2.1 mi.2.2.2.1 mi.2.2.2.2.1 :: pm_gw
def pm_rm (mi : pm_MI) : Room := { frames := mi.2.2.2.2.2.2.1, cells := 0, slots := 0, locals := mi.2.2.2.2.2.2.2 }
def pm_B (D : va_G) (E : pm_E) (sz : Nat) (M : pm_M) (U : State) : Prop := U.heap.size = sz ∧ va_P D pm_cl (pm_wl E M) U.heap ∧ va_D (pm_A E sz) (pm_wl E M) ∧ va_K D pm_cl (pm_tys E) U ∧ pm_St E (pm_A E sz) U U.heap
def pm_Q (D : va_G) (E : pm_E) (sz : Nat) (xs : Nat → Int32) (L : Int32) (Q : Option pm_V → pm_M → Prop) : Array Value → State → Outcome → State → Prop := fun _ st oc t =>
  (∃ (v : Option pm_V) (M' : pm_M), oc = .returned (v.map (pm_cv E)) ∧ Q v M' ∧ (∀ w, v = some w → pm_okv w) ∧ va_P D pm_cl (pm_wl E M') t.heap ∧ M'.1 50 0 = xs ∧ M'.1 49 0 0 = L) ∧ va_F (pm_A E sz) st t
def pm_Sem (mi : pm_MI) (as : List pm_V) (M : pm_M) (Q : Option pm_V → pm_M → Prop) : Prop :=
  ∀ (l : Launch) (D : va_G) (E : pm_E) (sz : Nat) (xs : Nat → Int32) (L : Int32), (∀ v ∈ as, pm_okv v) → M.1 50 0 = xs → M.1 49 0 0 = L → Met l mi.2.1 (pm_ws mi) (pm_rm mi) (va_Pc (as.map (pm_cv E)) (pm_B D E sz M)) (pm_Q D E sz xs L Q) 0 0 (pm_A E sz)
theorem pm_G_run {mi : pm_MI} {pc : Nat} {ls : pm_L} {st : List pm_V} {M : pm_M} {Q : Option pm_V → pm_M → Prop} (n : Nat) {cs : List Prop} {pc' : Nat} {ls' : pm_L} {st' : List pm_V} {M' : pm_M} (h : pm_run mi n pc ls st M = some (cs, pc', ls', st', M')) (hc : pm_all cs) (k : pm_G mi pc' ls' st' M' Q) : pm_G mi pc ls st M Q := by
  intro p l e R s m args below meth c cells slots Z D E A xs L hok C hZ
  exact pm_runs hok C n h hc (k p l e R s m args below meth c cells slots Z D E A xs L hok C hZ)
theorem pm_G_ret {mi : pm_MI} {pc : Nat} {ls : pm_L} {st : List pm_V} {M : pm_M} {Q : Option pm_V → pm_M → Prop} {i : Instr} {v : Option pm_V} (ht : pm_tab mi pc = some i) (hr : pm_rt mi.2.2.2.2.1 i st v) (hq : Q v M) : pm_G mi pc ls st M Q := by
  intro p l e R s m args below meth c cells slots Z D E A xs L hok C hZ H locs LS hW hF
  exact hZ pc i st v M H locs LS hq ht hr hW hF.ok
theorem pm_G_imp {mi : pm_MI} {pc : Nat} {ls : pm_L} {st : List pm_V} {M : pm_M} {Q Q' : Option pm_V → pm_M → Prop} (h : pm_G mi pc ls st M Q) (hq : ∀ v M', Q v M' → Q' v M') : pm_G mi pc ls st M Q' := by
  intro p l e R s m args below meth c cells slots Z D E A xs L hok C hZ
  exact h p l e R s m args below meth c cells slots Z D E A xs L hok C (fun pc' i st' v M' H' locs' LS' q => hZ pc' i st' v M' H' locs' LS' (hq v M' q))
/-- fewer locals -/
theorem pm_G_sub {mi : pm_MI} {pc : Nat} {ls ls' : pm_L} {st : List pm_V} {M : pm_M} {Q : Option pm_V → pm_M → Prop} (hl : ls'.length = ls.length) (h : ∀ (i : Nat) (v : pm_V), ls'[i]? = some (some v) → ls[i]? = some (some v)) (k : pm_G mi pc ls' st M Q) : pm_G mi pc ls st M Q := by
  intro p l e R s m args below meth c cells slots Z D E A xs L hok C hZ H locs LS hW hF
  exact k p l e R s m args below meth c cells slots Z D E A xs L hok C hZ H locs LS hW ⟨hF.1, hF.2.1, hl.trans hF.2.2.1, fun i v hv => hF.2.2.2.1 i v (h i v hv), hF.2.2.2.2⟩
theorem pm_Sem_imp {mi : pm_MI} {as : List pm_V} {M : pm_M} {Q Q' : Option pm_V → pm_M → Prop} (h : pm_Sem mi as M Q) (hq : ∀ v M', Q v M' → Q' v M') : pm_Sem mi as M Q' := by
  intro l D E sz xs L h1 h2 h3
  intro p e ha hc hk s m args below hf happ hP hK
  obtain ⟨n, o, a1, a2, a3, ⟨⟨v, M', q1, q2, q3⟩, q4⟩, q5⟩ := h l D E sz xs L h1 h2 h3 p e ha hc hk s m args below hf happ hP hK
  exact ⟨n, o, a1, a2, a3, ⟨⟨v, M', q1, hq v M' q2, q3⟩, q4⟩, q5⟩
-- the entry
def pm_en : List pm_V → pm_L
  | [] => []
  | v :: vs => if pm_is1 v = true then some v :: pm_en vs else some v :: none :: pm_en vs
theorem pm_cat2 {E : pm_E} {v : pm_V} (h : ¬ pm_is1 v = true) : (pm_cv E v).category = 2 := by
  rcases v with x | x | ⟨t, k⟩
  · exact absurd rfl h
  · rfl
  · exact absurd rfl h
theorem pm_en_len {E : pm_E} (hE : E.2.1.category = 1) : ∀ as : List pm_V, (lg_sl (as.map (pm_cv E))).length = (pm_en as).length
  | [] => rfl
  | v :: vs => by
    have ih := pm_en_len hE vs
    unfold lg_sl at ih ⊢
    rw [List.map_cons, List.flatMap_cons, List.length_append, ih]
    by_cases h : pm_is1 v = true
    · rw [pm_en, if_pos h, pm_cat hE h]
      simp
      omega
    · rw [pm_en, if_neg h, pm_cat2 h]
      simp
      omega
theorem pm_en_in {E : pm_E} (hE : E.2.1.category = 1) : ∀ (as : List pm_V) (off i : Nat) (v : pm_V), (pm_en as)[i]? = some (some v) → (off + i, pm_cv E v) ∈ lv_args off (as.map (pm_cv E)) ∧ v ∈ as
  | [], off, i, v, h => by simp [pm_en] at h
  | w :: ws, off, i, v, h => by
    rw [List.map_cons, lv_args]
    by_cases h1 : pm_is1 w = true
    · rw [pm_en, if_pos h1] at h
      rw [pm_cat hE h1]
      rcases i with _ | i
      · simp at h
        subst h
        exact ⟨List.mem_cons_self, List.mem_cons_self⟩
      · have := pm_en_in hE ws (off + 1) i v (by simpa using h)
        refine ⟨List.mem_cons_of_mem _ ?_, List.mem_cons_of_mem _ this.2⟩
        rw [if_neg (by decide)]
        rw [show off + (i + 1) = off + 1 + i by omega]
        exact this.1
    · rw [pm_en, if_neg h1] at h
      rw [pm_cat2 h1]
      rcases i with _ | _ | i
      · simp at h
        subst h
        exact ⟨List.mem_cons_self, List.mem_cons_self⟩
      · simp at h
      · have := pm_en_in hE ws (off + 2) i v (by simpa using h)
        refine ⟨List.mem_cons_of_mem _ ?_, List.mem_cons_of_mem _ this.2⟩
        rw [if_pos rfl]
        rw [show off + (i + 1 + 1) = off + 2 + i by omega]
        exact this.1
set_option maxHeartbeats 4000000 in
/-- a method's contract out of its walk -/
theorem pm_Sem_of {mi : pm_MI} {as : List pm_V} {ls : pm_L} {M : pm_M} {Q : Option pm_V → pm_M → Prop} (hok : pm_ok mi) (hpl : plainName mi.2.1.cls = true) (hcl : mi.2.1.cls = pm_RN mi.1) (h7 : mi.1 ≠ 7) (hln : (pm_en as).length ≤ mi.2.2.2.1) (hls : pm_en as ++ List.replicate (mi.2.2.2.1 - (pm_en as).length) none = ls) (h : pm_G mi 0 ls [] M Q) : pm_Sem mi as M Q := by
  intro l D E sz xs L hv h50 h49
  refine Met.ofW (cc := mi.2.2.1) (maxL := mi.2.2.2.1) (ret := mi.2.2.2.2.1) hpl rfl ?_
  intro p e s m args below meth c s₁ B hml hP
  obtain ⟨rfl, hsz, hP, hD, hK, hSt⟩ := hP
  have hE := hSt.cat
  have hx := B.exec
  have hb := B.bytes
  have hr := B.returns
  have hts := atoms_spec (ws := pm_ws mi) B.pre
  have hown : s.vm.findClass mi.2.1.cls = some m.cls := findClass_of_methodNamed B.named
  have hlocks := B.notSynchronized
  subst hsz
  have hl := lv_entry (as.map (pm_cv E)) (n := mi.2.2.2.1) (by rw [pm_en_len hE]; exact hln)
  rw [lg_entry_eq]
  generalize (lg_sl (as.map (pm_cv E)) ++ List.replicate (mi.2.2.2.1 - (lg_sl (as.map (pm_cv E))).length) Slot.unset).toArray = LS at hl ⊢
  refine h p l e (headSpec (pm_ws mi) (pm_rm mi)).room s m _ below meth c 0 0 _ D E (pm_A E s.heap.size) xs L hok.1 ⟨hx, hb, hml, by rw [← hcl]; exact hown, fun w hw => hts w (List.mem_cons_of_mem _ hw), hK, hSt, ⟨Nat.le_refl _, Nat.le_refl _, Nat.zero_le _, Nat.zero_le _⟩, fun q hq => Or.inr hq, fun q => absurd q h7⟩ ?_ s.heap [] LS ⟨hP, hD, va_S.rf, h50, h49⟩ ?_
  · intro pc' i st' v M' H' locs' LS' hq ht hrt hW hst
    have hd := pm_tab_ok hok.1 ht
    have post : ∀ (t : State), t.heap = H' → s.WarmedH t.vm → (∀ w, v = some w → pm_okv w) → pm_Q D E s.heap.size xs L Q (as.map (pm_cv E)).toArray s (.returned (v.map (pm_cv E))) t := fun t ht hWm hw => ⟨⟨v, M', rfl, hq, hw, by rw [ht]; exact hW.1, hW.2.2.2.1, hW.2.2.2.2⟩, hW.2.2.1.F ht⟩
    cases i with
    | return_ =>
      obtain ⟨r1, rfl, rfl⟩ := hrt
      rw [r1] at hr
      exact W.vret hx hb hr (fun t ht hWm => post t ht hWm (fun w h => by cases h)) hW.2.2.1.2.2 hd
    | ireturn =>
      obtain ⟨ty, x, r1, rfl, rfl, r4⟩ := hrt
      rw [r1] at hr
      exact W.zret hx hb hr r4 (fun t ht hWm => post t ht hWm (fun w h => by cases h; trivial)) hW.2.2.1.2.2 hd
    | lreturn =>
      obtain ⟨x, r1, rfl, rfl⟩ := hrt
      rw [r1] at hr
      exact W.lret hx hb hr (fun t ht hWm => post t ht hWm (fun w h => by cases h; trivial)) hW.2.2.1.2.2 hd
    | areturn =>
      obtain ⟨t, k, n, r1, rfl, rfl, r4⟩ := hrt
      rw [r1] at hr
      exact W.aret (v := pm_cv E (pm_r t k)) hx hb hr (Or.inl ⟨n, rfl⟩) (Or.inr ⟨E.1 t k, pm_cv_r r4⟩) (fun t' ht hWm => post t' ht hWm (fun w h => by cases h; exact hst _ List.mem_cons_self)) hW.2.2.1.2.2 hd
    | _ => exact hrt.elim
  · refine ⟨hl.1, hl.2.1, ?_, fun i v hi => ?_, fun v hv => by cases hv⟩
    · rw [← hls]
      simp
      omega
    · rw [← hls, List.getElem?_append] at hi
      split at hi
      · have := pm_en_in hE as 0 i v hi
        rw [Nat.zero_add] at this
        exact ⟨hl.2.2 _ this.1, hv v this.2⟩
      · rw [List.getElem?_replicate] at hi
        split at hi <;> cases hi
