abbrev pm_D (v : Option pm_V) (M' : pm_M) : Option pm_V → pm_M → Prop := fun v1 M1 => v1 = v ∧ M1 = M'
/-- the method answers v and leaves M' -/
def pm_Ev (mi : pm_MI) (as : List pm_V) (M : pm_M) (v : Option pm_V) (M' : pm_M) : Prop := pm_Sem mi as M (pm_D v M')
theorem pm_G_ite {mi : pm_MI} {c : Prop} [Decidable c] {a b : Nat} {ls : pm_L} {st : List pm_V} {M : pm_M} {Q : Option pm_V → pm_M → Prop} (h1 : c → pm_G mi a ls st M Q) (h2 : ¬ c → pm_G mi b ls st M Q) : pm_G mi (if c then a else b) ls st M Q := by
  by_cases h : c
  · rw [if_pos h]; exact h1 h
  · rw [if_neg h]; exact h2 h
def fMa_abs (x : Int32) : Int32 := if 0 ≤ x then x else 0 - x
def fMa_max (x y : Int32) : Int32 := if x < y then y else x
def fMa_min (x y : Int32) : Int32 := if y < x then y else x
theorem pm_w_mi : Cond.initialized "java/lang/Math" ∈ pm_gw := pm_in (List.mem_of_getElem? (i := 15) (by decide +kernel)) (by decide +kernel)
theorem pm_w_as : Cond.static Lib.Math.abs.name ∈ pm_gw := pm_in (List.mem_of_getElem? (i := 536) (by decide +kernel)) (by decide +kernel)
theorem pm_w_xs : Cond.static Lib.Math.max.name ∈ pm_gw := pm_in (List.mem_of_getElem? (i := 637) (by decide +kernel)) (by decide +kernel)
theorem pm_w_ns : Cond.static Lib.Math.min.name ∈ pm_gw := pm_in (List.mem_of_getElem? (i := 626) (by decide +kernel)) (by decide +kernel)
theorem pm_w_ac : Cond.code Lib.Math.abs.name Lib.Math.abs.code 1 (some .int) ∈ pm_gw := pm_in (List.mem_of_getElem? (i := 537) (by decide +kernel)) (by decide +kernel)
theorem pm_w_xc : Cond.code Lib.Math.max.name Lib.Math.max.code 2 (some .int) ∈ pm_gw := pm_in (List.mem_of_getElem? (i := 638) (by decide +kernel)) (by decide +kernel)
theorem pm_w_nc : Cond.code Lib.Math.min.name Lib.Math.min.code 2 (some .int) ∈ pm_gw := pm_in (List.mem_of_getElem? (i := 627) (by decide +kernel)) (by decide +kernel)
theorem pm_w_al : Cond.methodLink "WheelTickets" 275 Lib.Math.abs.name ∈ pm_gw := pm_in (List.mem_of_getElem? (i := 535) (by decide +kernel)) (by decide +kernel)
theorem pm_w_nl : Cond.methodLink "WheelTickets$Rest" 104 Lib.Math.min.name ∈ pm_gw := pm_in (List.mem_of_getElem? (i := 625) (by decide +kernel)) (by decide +kernel)
theorem pm_w_xl : Cond.methodLink "WheelTickets$Rest" 109 Lib.Math.max.name ∈ pm_gw := pm_in (List.mem_of_getElem? (i := 636) (by decide +kernel)) (by decide +kernel)
theorem pm_G_abs {mi : pm_MI} {pc : Nat} {ls : pm_L} {st : List pm_V} {M : pm_M} {Q : Option pm_V → pm_M → Prop} {x : Int32} (h5 : mi.1 = 5) (ht : pm_tab mi pc = some (.invokestatic 275)) (hct : (st.map pm_ct).sum ≤ 8) (hR : 1 ≤ mi.2.2.2.2.2.2.1 ∧ 21 ≤ mi.2.2.2.2.2.2.2) (kk : pm_G mi (pc + 3) ls (pm_i (fMa_abs x) :: st) M Q) : pm_G mi pc ls (pm_i x :: st) M Q := by
  intro p l e R s m args below meth c cells slots Z D E A xs L hok C hZ H locs LS hW hF
  have hd := pm_tab_ok hok ht
  have kk := kk p l e R s m args below meth c cells slots Z D E A xs L hok C hZ H locs LS hW (hF.stk (pm_ok_c trivial (pm_ok_t hF.ok)))
  obtain ⟨hx, hb, hml, hown, hts, hK, hSt, ⟨r1, r2, r3, r4⟩, hA, hX⟩ := C
  rw [h5] at hown
  exact va_mabs hx hb (hml.trans hF.1.symm) hown (hts _ pm_w_al) (hts _ pm_w_as) (hts _ pm_w_mi) (hts _ pm_w_ac) (Nat.le_trans hR.1 r1) (by rw [pm_cts hSt.cat]; omega) r3 r4 hd kk
theorem pm_G_max {mi : pm_MI} {pc : Nat} {ls : pm_L} {st : List pm_V} {M : pm_M} {Q : Option pm_V → pm_M → Prop} {x y : Int32} (h5 : mi.1 = 0) (ht : pm_tab mi pc = some (.invokestatic 109)) (hct : (st.map pm_ct).sum ≤ 8) (hR : 1 ≤ mi.2.2.2.2.2.2.1 ∧ 21 ≤ mi.2.2.2.2.2.2.2) (kk : pm_G mi (pc + 3) ls (pm_i (fMa_max x y) :: st) M Q) : pm_G mi pc ls (pm_i y :: pm_i x :: st) M Q := by
  intro p l e R s m args below meth c cells slots Z D E A xs L hok C hZ H locs LS hW hF
  have hd := pm_tab_ok hok ht
  have kk := kk p l e R s m args below meth c cells slots Z D E A xs L hok C hZ H locs LS hW (hF.stk (pm_ok_c trivial (pm_ok_t (pm_ok_t hF.ok))))
  obtain ⟨hx, hb, hml, hown, hts, hK, hSt, ⟨r1, r2, r3, r4⟩, hA, hX⟩ := C
  rw [h5] at hown
  exact va_mmax hx hb (hml.trans hF.1.symm) hown (hts _ pm_w_xl) (hts _ pm_w_xs) (hts _ pm_w_mi) (hts _ pm_w_xc) (Nat.le_trans hR.1 r1) (by rw [pm_cts hSt.cat]; omega) r3 r4 hd kk
theorem pm_G_min {mi : pm_MI} {pc : Nat} {ls : pm_L} {st : List pm_V} {M : pm_M} {Q : Option pm_V → pm_M → Prop} {x y : Int32} (h5 : mi.1 = 0) (ht : pm_tab mi pc = some (.invokestatic 104)) (hct : (st.map pm_ct).sum ≤ 8) (hR : 1 ≤ mi.2.2.2.2.2.2.1 ∧ 21 ≤ mi.2.2.2.2.2.2.2) (kk : pm_G mi (pc + 3) ls (pm_i (fMa_min x y) :: st) M Q) : pm_G mi pc ls (pm_i y :: pm_i x :: st) M Q := by
  intro p l e R s m args below meth c cells slots Z D E A xs L hok C hZ H locs LS hW hF
  have hd := pm_tab_ok hok ht
  have kk := kk p l e R s m args below meth c cells slots Z D E A xs L hok C hZ H locs LS hW (hF.stk (pm_ok_c trivial (pm_ok_t (pm_ok_t hF.ok))))
  obtain ⟨hx, hb, hml, hown, hts, hK, hSt, ⟨r1, r2, r3, r4⟩, hA, hX⟩ := C
  rw [h5] at hown
  exact va_mmin hx hb (hml.trans hF.1.symm) hown (hts _ pm_w_nl) (hts _ pm_w_ns) (hts _ pm_w_mi) (hts _ pm_w_nc) (Nat.le_trans hR.1 r1) (by rw [pm_cts hSt.cat]; omega) r3 r4 hd kk
