/-! THE CLAIM OUT OF ONE WALK OF THE LAW'S BODY. Your part is whole_start (and what it stands on); all else here is the same for every law, but numbers. -/
def R_law : String := "WheelTicketsLaw"
def lw_P (b : Addr) (xs : List Int32) (args : Array Value) (s : State) : Prop := args = #[.ref b] ∧ s.IntsAt b xs ∧ xs.length ≤ 320 ∧ (Jvm.Cond.and given_1 narrow_1).before args s = true
def lw_Q (_ : Array Value) (s : State) (o : Outcome) (t : State) : Prop := o = .returned (some (.int 1)) ∧ Framed s o t [] 600000 7302250
def lw_Z (below : List Frame) (a : Array Value) (s : State) : State → Prop := fun t => ∃ o, t.status = .running ∧ Ended t below o ∧ lw_Q a s o t
/-- the law's own end, with 1 on the stack, nothing written that was there before, its room as the claim has it -/
theorem lw_ret {p : Program} {l : Launch} {e : Env} {s : State} {m : MethodId} {below : List Frame} {meth : Method} {c : Code} {b : Nat} (hx : p.tables.exec = Jvm.exec) (hb : c.code = code) (hr : meth.sig.returnType = ret) (hlocks : meth.locks = false) {pc : Nat} {H : Heap} {ls : Array Slot} (hdg : decode code pc = .ok (.ireturn, 1)) : W p l e room_1 s m #[Value.ref b] below meth c H [] 600000 7302250 (lw_Z below #[Value.ref b] s) (F0 m pc ls [.int 1]) := by
  intro T hT X
  obtain ⟨fs, hret, hrun, hended, hW, hframe⟩ := X.leave (v := some (.int 1)) (hlocks := hlocks) (fun h => by rw [hr] at h; cases h)
  have hmeth' : T.vm.method? m = some meth := X.method'
  refine ⟨T.setFrames fs, ?_, .returned (some (.int 1)), hrun, hended, rfl, ⟨_, rfl⟩, hW, hframe⟩
  jvm_step X.here [X.here.top, hx, hb, hdg, hmeth', hr, ret, narrow_b1]
  (try refine ⟨rfl, ?_⟩); (try refine ⟨rfl, ?_⟩)
  first | (intro acts; rw [hret _ acts rfl rfl rfl]) | rw [hret _ _ rfl rfl rfl]
  exact Steps.refl _
/-- what holds at the law's entry: the machine, the code, the tables' words (any of lw_tbl by 'hts w (by decide +kernel)'), the script of L ints xs at the cell b, what the Statement gives of the start (any of its parts by flat_of_before) -/
def lw_At (p : Program) (s : State) (m : MethodId) (meth : Method) (c : Code) (b L : Nat) (xs : Nat → Int32) : Prop :=
  p.tables.exec = Jvm.exec ∧ c.code = code ∧ meth.sig.returnType = ret ∧ c.maxLocals = 4 ∧ s.vm.findClass R_law = some m.cls ∧ (∀ w ∈ lw_tbl, w.before #[Value.ref b] s = true) ∧ va_X b L xs s s.heap ∧ b < s.heap.size ∧ meth.locks = false ∧ (Jvm.Cond.and given_1 narrow_1).before #[Value.ref b] s = true
/-! the law's first steps -/
set_option maxRecDepth 20000 in
theorem st_lw0 : ([Cond.classLink (pm_RN 7) 7 (pm_RN 5), Cond.instantiable (pm_RN 5) 9, Cond.initialized (pm_RN 5), Cond.methodLink (pm_RN 7) 9 mWt_init.2.1, Cond.instanceMethod mWt_init.2.1, Cond.classLink (pm_RN 7) 10 (pm_RN 6), Cond.instantiable (pm_RN 6) 37, Cond.initialized (pm_RN 6), Cond.methodLink (pm_RN 7) 12 mMo_init.2.1, Cond.instanceMethod mMo_init.2.1] : List Cond).all (fun w => decide (w ∈ tables_1)) = true := by decide +kernel
theorem st_lw {w : Cond} (h : w ∈ ([Cond.classLink (pm_RN 7) 7 (pm_RN 5), Cond.instantiable (pm_RN 5) 9, Cond.initialized (pm_RN 5), Cond.methodLink (pm_RN 7) 9 mWt_init.2.1, Cond.instanceMethod mWt_init.2.1, Cond.classLink (pm_RN 7) 10 (pm_RN 6), Cond.instantiable (pm_RN 6) 37, Cond.initialized (pm_RN 6), Cond.methodLink (pm_RN 7) 12 mMo_init.2.1, Cond.instanceMethod mMo_init.2.1] : List Cond)) : w ∈ lw_tbl := st_tb (by simpa using List.all_eq_true.mp st_lw0 w h)
theorem st_blind {D : va_G} {E0 : pm_E} {h0 sz : Nat} {xs : Nat → Int32} {L : Int32} {av : List Value} : FrameBlind (va_Pc av (st_B D E0 h0 sz xs L)) := by
  intro a U g mk q
  obtain ⟨q0, q1, qP, qD, qK, qX, qS⟩ := q
  exact ⟨q0, q1, qP, qD, va_K.moved (u := U) (U := U.calling g mk a) (Vm.Alike.refl U.vm) qK, qX.blind g mk a, qS.blind g mk a⟩
section ST6
variable {p : Program} {e : Env} {s : State} {m : MethodId} {below : List Frame} {meth : Method} {c : Code} {b L : Nat} {xs : Nat → Int32}
/-- behind the two constructors -/
theorem st_end (l : Launch) (hL : L ≤ 320) (C0 : lw_At p s m meth c b L xs) {D : va_G} {E : pm_E} {M : pm_M} {H : Heap} {locs : List Loc} {ls : Array Slot} {cells slots : Nat} (hc : cells ≤ 600000) (hsl : slots ≤ 7302250) (hb0 : E.1 50 0 = b) (hK : va_K D pm_cl (pm_tys E) s) (hSt : pm_St E (fun q => s.heap.size ≤ q) s s.heap) (hP : va_P D pm_cl (pm_wl E M) H) (hD : va_D (fun q => s.heap.size ≤ q) (pm_wl E M)) (hS : va_S (fun q => s.heap.size ≤ q) s.heap H locs) (hI : st_P xs (nI L) M) (hl : lv_has ls 4 [(2, .ref (E.1 29 0)), (1, .ref (E.1 0 0)), (0, .ref b)]) : W p l e room_1 s m #[Value.ref b] below meth c H locs cells slots (lw_Z below #[Value.ref b] s) (F0 m 16 ls []) := by
  obtain ⟨hx, hb, hr, hml, hown, hts, hX, hbl, hlocks, hgv⟩ := C0
  have c1 : (nI L).toNatClampNeg = L := pm_cl4 (by omega)
  refine W.widen hc hsl ?_
  refine la_body hL (st_inv hI) (M := M) ?_ p l e room_1 s m #[Value.ref b] below meth c 600000 7302250 _ D E (fun q => s.heap.size ≤ q) xs (nI L) ok_mLa_law ⟨hx, hb, hml, hown, fun w hw => hts w (st_gw hw), hK, hSt, ⟨Nat.le_of_ble_eq_true rfl, Nat.le_of_ble_eq_true rfl, Nat.le_refl _, Nat.le_refl _⟩, fun q h => h, fun _ => ⟨?_, ?_, ?_, ?_⟩⟩ ?_ H locs ls ⟨hP, hD, hS, ?_, ?_⟩ ?_
  · rw [hI.1 49 0 (by decide) (by decide) (by decide) (by decide) (by decide)]
    rfl
  · rw [hb0, c1]
    exact hX
  · rw [hb0]
    exact hbl
  · rw [hb0]
    exact Nat.not_le.mpr hbl
  · rw [c1]
    rfl
  · intro pc' i st' v M' H' locs' LS' hq ht hrt hW hst
    have hq : v = some (pm_i 1) := hq
    have hd := pm_tab_ok ok_mLa_law ht
    subst hq
    cases i with
    | return_ => exact absurd hrt.2.2 (by simp)
    | ireturn =>
      obtain ⟨ty, x, r1, rfl, r3, r4⟩ := hrt
      have hx1 : x = 1 := by
        simp at r3
        exact r3.symm
      subst hx1
      exact va_forget hW.2.2.1.2.2 (lw_ret hx hb hr hlocks hd)
    | lreturn =>
      obtain ⟨x, r1, r2, r3⟩ := hrt
      simp at r3
    | areturn =>
      obtain ⟨t, k, n, r1, r2, r3, r4⟩ := hrt
      simp at r3
    | _ => exact hrt.elim
  · rw [hI.1 50 0 (by decide) (by decide) (by decide) (by decide) (by decide)]
    rfl
  · rw [hI.1 49 0 (by decide) (by decide) (by decide) (by decide) (by decide)]
    rfl
  · refine ⟨hl.1, hl.2.1, rfl, fun i v hi => ?_, fun v hv => by cases hv⟩
    rcases i with _ | _ | _ | _ | i
    · simp at hi
      subst hi
      refine ⟨?_, show 0 < pm_cnt 50 by decide⟩
      show ls[0]? = some (.val (.ref (E.1 50 0)))
      rw [hb0]
      exact hl.2.2 (0, .ref b) (by simp)
    · simp at hi
      subst hi
      exact ⟨hl.2.2 (1, .ref (E.1 0 0)) (by simp), show 0 < pm_cnt 0 by decide⟩
    · simp at hi
      subst hi
      exact ⟨hl.2.2 (2, .ref (E.1 29 0)) (by simp), show 0 < pm_cnt 29 by decide⟩
    · simp at hi
    · simp at hi
end ST6
